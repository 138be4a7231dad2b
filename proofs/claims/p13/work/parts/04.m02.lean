section
/-! ZoneSharesModel.isTold(I)Z -/
theorem mx_144 : iv_mx 144 = 2 := by decide +kernel
theorem rt_144 : iv_rt 144 = some .boolean := by decide +kernel
def fm_144 (x1 : Int32) (σ : fx_S) : Option (Bool × fx_S) :=
  (fx_ld σ 216 (2 : Int32)).bind fun v5 =>
  if ¬ ((v5 >>> (x1 &&& 31)) &&& (1 : Int32)) = (1 : Int32) then (
    some (false, σ)) else (
    some (true, σ))
theorem fe_144 {d : Nat} (hd : 0 ≤ d) {x1 : Int32} {σ : fx_S} {q : Bool × fx_S} (h : fm_144 x1 σ = some q) : fx_E none 144 d 0 [some (.ref 215), some (.int x1)] [] σ (some (.int (fx_b q.1))) q.2 := by
  unfold fm_144 at h
  refine fs_aload_n (k := 0) (p := 1) (by decide +kernel) rfl rfl ?_
  refine fs_gfr (idx := 9) (ci := 10) (j := 0) (p := 4) (by decide +kernel) rfl (by decide +kernel) fo_215 (fr_a215_0) ?_
  refine fs_iconst (n := 2) (p := 5) (by decide +kernel) rfl kc_2 ?_
  obtain ⟨v5, w6, h⟩ := fx_bd h
  refine fs_iaload (p := 6) (by decide +kernel) rfl w6 ?_
  refine fs_iload_n (k := 1) (p := 7) (by decide +kernel) rfl rfl ?_
  refine fs_ishr (p := 8) (by decide +kernel) rfl ?_
  refine fs_iconst (n := 1) (p := 9) (by decide +kernel) rfl kc_1 ?_
  refine fs_iand (p := 10) (by decide +kernel) rfl ?_
  refine fs_iconst (n := 1) (p := 11) (by decide +kernel) rfl kc_1 ?_
  by_cases c8 : ¬ ((v5 >>> (x1 &&& 31)) &&& (1 : Int32)) = (1 : Int32)
  · rw [if_pos c8] at h
    refine fs_icmp_ne_t (off := 7) (t := 18) (by decide +kernel) (by decide +kernel) c8 ?_
    refine fs_iconst (n := 0) (p := 19) (by decide +kernel) rfl kc_0 ?_
    have h := Option.some.inj h
    subst h
    exact fs_zret (b := false) (by decide +kernel) rt_144
  · rw [if_neg c8] at h
    refine fs_icmp_ne_f (off := 7) (t := 18) (p := 14) (by decide +kernel) (by decide +kernel) rfl c8 ?_
    refine fs_iconst (n := 1) (p := 15) (by decide +kernel) rfl kc_1 ?_
    refine fs_goto (off := 4) (p := 19) (by decide +kernel) (by decide +kernel) ?_
    have h := Option.some.inj h
    subst h
    exact fs_zret (b := true) (by decide +kernel) rt_144

/-! ZoneSharesModel.layer(I)I -/
theorem mx_145 : iv_mx 145 = 3 := by decide +kernel
theorem rt_145 : iv_rt 145 = some .int := by decide +kernel
def fm_145_126 : Nat → Int32 → Int32 → fx_S → Option (Int32 × fx_S)
  | 0, _, _, _ => none
  | n + 1, x1, x2, σ =>
    if (96 : Int32) ≤ x2 then (
      (fx_ld σ 216 (0 : Int32)).bind fun v3 =>
      (fx_ld σ 216 (1 : Int32)).bind fun v5 =>
      some ((v3 * v5), σ)) else (
      (fx_ld σ 219 x2).bind fun v7 =>
      (fx_st σ 216 (((52 : Int32) + ((96 : Int32) * x1)) + x2) v7).bind fun t10 =>
      fm_145_126 n x1 (x2 + (1 : Int32)) t10)
theorem fe_145_126 {d : Nat} (hd : 4 ≤ d) : ∀ (n : Nat) (x1 : Int32) (x2 : Int32) (σ : fx_S) (q : Int32 × fx_S), fm_145_126 n x1 x2 σ = some q → fx_E none 145 d 126 [some (.ref 215), some (.int x1), some (.int x2)] [] σ (some (.int q.1)) q.2 := by
  intro n
  induction n with
  | zero =>
    intro x1 x2 σ q  h
    rw [fm_145_126] at h
    exact fx_no h
  | succ n ih =>
    intro x1 x2 σ q  h
    rw [fm_145_126] at h
    refine fs_iload_n (k := 2) (p := 127) (by decide +kernel) rfl rfl ?_
    refine fs_bipush (n := 96) (p := 129) (by decide +kernel) rfl kb_96 ?_
    by_cases c2 : (96 : Int32) ≤ x2
    · rw [if_pos c2] at h
      refine fs_icmp_ge_t (off := 29) (t := 158) (by decide +kernel) (by decide +kernel) c2 ?_
      refine fs_aload_n (k := 0) (p := 159) (by decide +kernel) rfl rfl ?_
      refine fs_gfr (idx := 9) (ci := 10) (j := 0) (p := 162) (by decide +kernel) rfl (by decide +kernel) fo_215 (fr_a215_0) ?_
      refine fs_iconst (n := 0) (p := 163) (by decide +kernel) rfl kc_0 ?_
      obtain ⟨v3, w4, h⟩ := fx_bd h
      refine fs_iaload (p := 164) (by decide +kernel) rfl w4 ?_
      refine fs_aload_n (k := 0) (p := 165) (by decide +kernel) rfl rfl ?_
      refine fs_gfr (idx := 9) (ci := 10) (j := 0) (p := 168) (by decide +kernel) rfl (by decide +kernel) fo_215 (fr_a215_0) ?_
      refine fs_iconst (n := 1) (p := 169) (by decide +kernel) rfl kc_1 ?_
      obtain ⟨v5, w6, h⟩ := fx_bd h
      refine fs_iaload (p := 170) (by decide +kernel) rfl w6 ?_
      refine fs_imul (p := 171) (by decide +kernel) rfl ?_
      have h := Option.some.inj h
      subst h
      exact fs_iret (by decide +kernel) rt_145
    · rw [if_neg c2] at h
      refine fs_icmp_ge_f (off := 29) (t := 158) (p := 132) (by decide +kernel) (by decide +kernel) rfl c2 ?_
      refine fs_aload_n (k := 0) (p := 133) (by decide +kernel) rfl rfl ?_
      refine fs_gfr (idx := 9) (ci := 10) (j := 0) (p := 136) (by decide +kernel) rfl (by decide +kernel) fo_215 (fr_a215_0) ?_
      refine fs_bipush (n := 52) (p := 138) (by decide +kernel) rfl kb_52 ?_
      refine fs_bipush (n := 96) (p := 140) (by decide +kernel) rfl kb_96 ?_
      refine fs_iload_n (k := 1) (p := 141) (by decide +kernel) rfl rfl ?_
      refine fs_imul (p := 142) (by decide +kernel) rfl ?_
      refine fs_iadd (p := 143) (by decide +kernel) rfl ?_
      refine fs_iload_n (k := 2) (p := 144) (by decide +kernel) rfl rfl ?_
      refine fs_iadd (p := 145) (by decide +kernel) rfl ?_
      refine fs_aload_n (k := 0) (p := 146) (by decide +kernel) rfl rfl ?_
      refine fs_gfr (idx := 20) (ci := 10) (j := 7) (p := 149) (by decide +kernel) rfl (by decide +kernel) fo_215 (fr_a215_7) ?_
      refine fs_iload_n (k := 2) (p := 150) (by decide +kernel) rfl rfl ?_
      obtain ⟨v7, w8, h⟩ := fx_bd h
      refine fs_iaload (p := 151) (by decide +kernel) rfl w8 ?_
      obtain ⟨t10, w11, h⟩ := fx_bd h
      refine fs_iastore (p := 152) (by decide +kernel) rfl w11 ?_
      refine fs_iinc (k := 2) (n := 1) (p := 155) (M := 3) (al' := [some (.ref 215), some (.int x1), some (.int (x2 + (1 : Int32)))]) (by decide +kernel) rfl kc_1 mx_145 rfl rfl rfl ?_
      refine fs_goto (off := -29) (p := 126) (by decide +kernel) (by decide +kernel) ?_
      exact ih _ _ _ _ h
def fm_145_112 (x1 : Int32) (σ : fx_S) : Option (Int32 × fx_S) :=
  (fx_ld σ 216 (2 : Int32)).bind fun v1 =>
  (fx_st σ 216 (2 : Int32) (v1 ||| ((1 : Int32) <<< (x1 &&& 31)))).bind fun t3 =>
  fm_145_126 100000 x1 (0 : Int32) t3
theorem fe_145_112 {d : Nat} (hd : 4 ≤ d) (x1 : Int32) (σ : fx_S) (q : Int32 × fx_S) (h : fm_145_112  x1 σ = some q) : fx_E none 145 d 112 [some (.ref 215), some (.int x1), none] [] σ (some (.int q.1)) q.2 := by
  unfold fm_145_112 at h
  refine fs_aload_n (k := 0) (p := 113) (by decide +kernel) rfl rfl ?_
  refine fs_gfr (idx := 9) (ci := 10) (j := 0) (p := 116) (by decide +kernel) rfl (by decide +kernel) fo_215 (fr_a215_0) ?_
  refine fs_iconst (n := 2) (p := 117) (by decide +kernel) rfl kc_2 ?_
  refine fs_dup2 (p := 118) (by decide +kernel) rfl rfl rfl ?_
  obtain ⟨v1, w2, h⟩ := fx_bd h
  refine fs_iaload (p := 119) (by decide +kernel) rfl w2 ?_
  refine fs_iconst (n := 1) (p := 120) (by decide +kernel) rfl kc_1 ?_
  refine fs_iload_n (k := 1) (p := 121) (by decide +kernel) rfl rfl ?_
  refine fs_ishl (p := 122) (by decide +kernel) rfl ?_
  refine fs_ior (p := 123) (by decide +kernel) rfl ?_
  obtain ⟨t3, w4, h⟩ := fx_bd h
  refine fs_iastore (p := 124) (by decide +kernel) rfl w4 ?_
  refine fs_iconst (n := 0) (p := 125) (by decide +kernel) rfl kc_0 ?_
  refine fs_istore_n (k := 2) (p := 126) (M := 3) (al' := [some (.ref 215), some (.int x1), some (.int (0 : Int32))]) (by decide +kernel) rfl mx_145 rfl rfl ?_
  exact fe_145_126 hd 100000 _ _ _ _ h
def fm_145_85 (x1 : Int32) (σ : fx_S) : Option (Int32 × fx_S) :=
  (fx_st σ 216 (2 : Int32) (0 : Int32)).bind fun t1 =>
  (fx_st t1 216 (0 : Int32) (t1.1 215 8)).bind fun t3 =>
  (fx_st t3 216 (1 : Int32) (t3.1 215 9)).bind fun t5 =>
  fm_145_112 x1 t5
theorem fe_145_85 {d : Nat} (hd : 4 ≤ d) (x1 : Int32) (σ : fx_S) (q : Int32 × fx_S) (h : fm_145_85  x1 σ = some q) : fx_E none 145 d 85 [some (.ref 215), some (.int x1), none] [] σ (some (.int q.1)) q.2 := by
  unfold fm_145_85 at h
  refine fs_aload_n (k := 0) (p := 86) (by decide +kernel) rfl rfl ?_
  refine fs_gfr (idx := 9) (ci := 10) (j := 0) (p := 89) (by decide +kernel) rfl (by decide +kernel) fo_215 (fr_a215_0) ?_
  refine fs_iconst (n := 2) (p := 90) (by decide +kernel) rfl kc_2 ?_
  refine fs_iconst (n := 0) (p := 91) (by decide +kernel) rfl kc_0 ?_
  obtain ⟨t1, w2, h⟩ := fx_bd h
  refine fs_iastore (p := 92) (by decide +kernel) rfl w2 ?_
  refine fs_aload_n (k := 0) (p := 93) (by decide +kernel) rfl rfl ?_
  refine fs_gfr (idx := 9) (ci := 10) (j := 0) (p := 96) (by decide +kernel) rfl (by decide +kernel) fo_215 (fr_a215_0) ?_
  refine fs_iconst (n := 0) (p := 97) (by decide +kernel) rfl kc_0 ?_
  refine fs_aload_n (k := 0) (p := 98) (by decide +kernel) rfl rfl ?_
  refine fs_gfi (idx := 148) (ci := 10) (j := 8) (p := 101) (by decide +kernel) rfl (by decide +kernel) fo_215 ?_
  obtain ⟨t3, w4, h⟩ := fx_bd h
  refine fs_iastore (p := 102) (by decide +kernel) rfl w4 ?_
  refine fs_aload_n (k := 0) (p := 103) (by decide +kernel) rfl rfl ?_
  refine fs_gfr (idx := 9) (ci := 10) (j := 0) (p := 106) (by decide +kernel) rfl (by decide +kernel) fo_215 (fr_a215_0) ?_
  refine fs_iconst (n := 1) (p := 107) (by decide +kernel) rfl kc_1 ?_
  refine fs_aload_n (k := 0) (p := 108) (by decide +kernel) rfl rfl ?_
  refine fs_gfi (idx := 155) (ci := 10) (j := 9) (p := 111) (by decide +kernel) rfl (by decide +kernel) fo_215 ?_
  obtain ⟨t5, w6, h⟩ := fx_bd h
  refine fs_iastore (p := 112) (by decide +kernel) rfl w6 ?_
  exact fe_145_112 hd _ _ _ h
def fm_145_26 (x1 : Int32) (σ : fx_S) : Option (Int32 × fx_S) :=
  (fm_143 x1 σ).bind fun q2 =>
  (fm_138 (fx_w1 q2 215 4 (0 : Int32))).bind fun q4 =>
  if ¬ (fx_b q4.1) = 0 then (
    (fm_132 q4.2).bind fun q7 =>
    if ¬ x1 = 0 then (
      fm_145_112 x1 q7) else (
      (fx_ld q7 216 (0 : Int32)).bind fun v10 =>
      if ¬ (q7.1 215 8) = v10 then (
        fm_145_85 x1 q7) else (
        (fx_ld q7 216 (1 : Int32)).bind fun v15 =>
        if (q7.1 215 9) = v15 then (
          fm_145_112 x1 q7) else (
          fm_145_85 x1 q7)))) else (
    some (((-2 : Int32) - (q4.2.1 215 6)), q4.2))
theorem fe_145_26 {d : Nat} (hd : 4 ≤ d) (x1 : Int32) (σ : fx_S) (q : Int32 × fx_S) (h : fm_145_26  x1 σ = some q) : fx_E none 145 d 26 [some (.ref 215), some (.int x1), none] [] σ (some (.int q.1)) q.2 := by
  unfold fm_145_26 at h
  refine fs_aload_n (k := 0) (p := 27) (by decide +kernel) rfl rfl ?_
  refine fs_iload_n (k := 1) (p := 28) (by decide +kernel) rfl rfl ?_
  obtain ⟨q2, w1, h⟩ := fx_bd h
  refine fs_callV (idx := 167) (mj := 143) (ci := 10) (na := 1) (mx := 4) (p := 31) (args := [.ref 215, .int x1]) (rest := []) (al2 := [some (.ref 215), some (.int x1), none, none]) (by decide +kernel) rfl (by decide +kernel) fo_215 rfl rfl rfl rfl rfl rfl rfl (by omega) (fun d' hd' => fe_143 (by omega) w1) rfl ?_
  refine fs_aload_n (k := 0) (p := 32) (by decide +kernel) rfl rfl ?_
  refine fs_iconst (n := 0) (p := 33) (by decide +kernel) rfl kc_0 ?_
  refine fs_pfi (idx := 107) (ci := 10) (j := 4) (p := 36) (by decide +kernel) rfl (by decide +kernel) (by decide +kernel) fo_215 (fx_oki _ (by decide +kernel)) ?_
  refine fs_aload_n (k := 0) (p := 37) (by decide +kernel) rfl rfl ?_
  obtain ⟨q4, w3, h⟩ := fx_bd h
  refine fs_callV (idx := 120) (mj := 138) (ci := 10) (na := 0) (mx := 1) (p := 40) (args := [.ref 215]) (rest := []) (al2 := [some (.ref 215)]) (by decide +kernel) rfl (by decide +kernel) fo_215 rfl rfl rfl rfl rfl rfl rfl (by omega) (fun d' hd' => fe_138 (by omega) w3) rfl ?_
  by_cases c5 : ¬ (fx_b q4.1) = 0
  · rw [if_pos c5] at h
    refine fs_if_ne_t (off := 11) (t := 51) (by decide +kernel) (by decide +kernel) c5 ?_
    refine fs_aload_n (k := 0) (p := 52) (by decide +kernel) rfl rfl ?_
    obtain ⟨q7, w6, h⟩ := fx_bd h
    refine fs_callV (idx := 170) (mj := 132) (ci := 10) (na := 0) (mx := 2) (p := 55) (args := [.ref 215]) (rest := []) (al2 := [some (.ref 215), none]) (by decide +kernel) rfl (by decide +kernel) fo_215 rfl rfl rfl rfl rfl rfl rfl (by omega) (fun d' hd' => fe_132 (by omega) w6) rfl ?_
    refine fs_iload_n (k := 1) (p := 56) (by decide +kernel) rfl rfl ?_
    by_cases c9 : ¬ x1 = 0
    · rw [if_pos c9] at h
      refine fs_if_ne_t (off := 56) (t := 112) (by decide +kernel) (by decide +kernel) c9 ?_
      exact fe_145_112 hd _ _ _ h
    · rw [if_neg c9] at h
      refine fs_if_ne_f (off := 56) (t := 112) (p := 59) (by decide +kernel) (by decide +kernel) rfl c9 ?_
      refine fs_aload_n (k := 0) (p := 60) (by decide +kernel) rfl rfl ?_
      refine fs_gfi (idx := 148) (ci := 10) (j := 8) (p := 63) (by decide +kernel) rfl (by decide +kernel) fo_215 ?_
      refine fs_aload_n (k := 0) (p := 64) (by decide +kernel) rfl rfl ?_
      refine fs_gfr (idx := 9) (ci := 10) (j := 0) (p := 67) (by decide +kernel) rfl (by decide +kernel) fo_215 (fr_a215_0) ?_
      refine fs_iconst (n := 0) (p := 68) (by decide +kernel) rfl kc_0 ?_
      obtain ⟨v10, w11, h⟩ := fx_bd h
      refine fs_iaload (p := 69) (by decide +kernel) rfl w11 ?_
      by_cases c14 : ¬ (q7.1 215 8) = v10
      · rw [if_pos c14] at h
        refine fs_icmp_ne_t (off := 16) (t := 85) (by decide +kernel) (by decide +kernel) c14 ?_
        exact fe_145_85 hd _ _ _ h
      · rw [if_neg c14] at h
        refine fs_icmp_ne_f (off := 16) (t := 85) (p := 72) (by decide +kernel) (by decide +kernel) rfl c14 ?_
        refine fs_aload_n (k := 0) (p := 73) (by decide +kernel) rfl rfl ?_
        refine fs_gfi (idx := 155) (ci := 10) (j := 9) (p := 76) (by decide +kernel) rfl (by decide +kernel) fo_215 ?_
        refine fs_aload_n (k := 0) (p := 77) (by decide +kernel) rfl rfl ?_
        refine fs_gfr (idx := 9) (ci := 10) (j := 0) (p := 80) (by decide +kernel) rfl (by decide +kernel) fo_215 (fr_a215_0) ?_
        refine fs_iconst (n := 1) (p := 81) (by decide +kernel) rfl kc_1 ?_
        obtain ⟨v15, w16, h⟩ := fx_bd h
        refine fs_iaload (p := 82) (by decide +kernel) rfl w16 ?_
        by_cases c19 : (q7.1 215 9) = v15
        · rw [if_pos c19] at h
          refine fs_icmp_eq_t (off := 30) (t := 112) (by decide +kernel) (by decide +kernel) c19 ?_
          exact fe_145_112 hd _ _ _ h
        · rw [if_neg c19] at h
          refine fs_icmp_eq_f (off := 30) (t := 112) (p := 85) (by decide +kernel) (by decide +kernel) rfl c19 ?_
          exact fe_145_85 hd _ _ _ h
  · rw [if_neg c5] at h
    refine fs_if_ne_f (off := 11) (t := 51) (p := 43) (by decide +kernel) (by decide +kernel) rfl c5 ?_
    refine fs_bipush (n := -2) (p := 45) (by decide +kernel) rfl kb_m2 ?_
    refine fs_aload_n (k := 0) (p := 46) (by decide +kernel) rfl rfl ?_
    refine fs_gfi (idx := 117) (ci := 10) (j := 6) (p := 49) (by decide +kernel) rfl (by decide +kernel) fo_215 ?_
    refine fs_isub (p := 50) (by decide +kernel) rfl ?_
    have h := Option.some.inj h
    subst h
    exact fs_iret (by decide +kernel) rt_145
def fm_145 (x1 : Int32) (σ : fx_S) : Option (Int32 × fx_S) :=
  (fm_130 (x1).toInt64 (0 : Int64) (2 : Int64) σ).bind fun q52 =>
  if (fx_b q52.1) = 0 then (
    some ((-1 : Int32), q52.2)) else (
    if x1 = 0 then (
      fm_145_26 x1 q52.2) else (
      (fm_144 (0 : Int32) q52.2).bind fun q56 =>
      if ¬ (fx_b q56.1) = 0 then (
        fm_145_26 x1 q56.2) else (
        some ((-1 : Int32), q56.2))))
theorem fe_145 {d : Nat} (hd : 4 ≤ d) {x1 : Int32} {σ : fx_S} {q : Int32 × fx_S} (h : fm_145 x1 σ = some q) : fx_E none 145 d 0 [some (.ref 215), some (.int x1), none] [] σ (some (.int q.1)) q.2 := by
  unfold fm_145 at h
  refine fs_iload_n (k := 1) (p := 1) (by decide +kernel) rfl rfl ?_
  refine fs_i2l (p := 2) (by decide +kernel) rfl ?_
  refine fs_lconst (n := 0) (p := 3) (by decide +kernel) rfl kl_0 ?_
  refine fs_ldc2 (idx := 161) (p := 6) (x := 2) (by decide +kernel) rfl (by decide +kernel) ?_
  obtain ⟨q52, w51, h⟩ := fx_bd h
  refine fs_callS (idx := 128) (mj := 130) (na := 3) (mx := 6) (p := 9) (args := [.long (x1).toInt64, .long (0 : Int64), .long (2 : Int64)]) (rest := []) (al2 := [some (.long (x1).toInt64), none, some (.long (0 : Int64)), none, some (.long (2 : Int64)), none]) (by decide +kernel) rfl (by decide +kernel) rfl rfl rfl rfl rfl rfl rfl (by omega) (fun d' hd' => fe_130 (by omega) w51) rfl ?_
  by_cases c53 : (fx_b q52.1) = 0
  · rw [if_pos c53] at h
    refine fs_if_eq_t (off := 15) (t := 24) (by decide +kernel) (by decide +kernel) c53 ?_
    refine fs_iconst (n := -1) (p := 25) (by decide +kernel) rfl kc_m1 ?_
    have h := Option.some.inj h
    subst h
    exact fs_iret (by decide +kernel) rt_145
  · rw [if_neg c53] at h
    refine fs_if_eq_f (off := 15) (t := 24) (p := 12) (by decide +kernel) (by decide +kernel) rfl c53 ?_
    refine fs_iload_n (k := 1) (p := 13) (by decide +kernel) rfl rfl ?_
    by_cases c54 : x1 = 0
    · rw [if_pos c54] at h
      refine fs_if_eq_t (off := 13) (t := 26) (by decide +kernel) (by decide +kernel) c54 ?_
      exact fe_145_26 hd _ _ _ h
    · rw [if_neg c54] at h
      refine fs_if_eq_f (off := 13) (t := 26) (p := 16) (by decide +kernel) (by decide +kernel) rfl c54 ?_
      refine fs_aload_n (k := 0) (p := 17) (by decide +kernel) rfl rfl ?_
      refine fs_iconst (n := 0) (p := 18) (by decide +kernel) rfl kc_0 ?_
      obtain ⟨q56, w55, h⟩ := fx_bd h
      refine fs_callV (idx := 163) (mj := 144) (ci := 10) (na := 1) (mx := 2) (p := 21) (args := [.ref 215, .int (0 : Int32)]) (rest := []) (al2 := [some (.ref 215), some (.int (0 : Int32))]) (by decide +kernel) rfl (by decide +kernel) fo_215 rfl rfl rfl rfl rfl rfl rfl (by omega) (fun d' hd' => fe_144 (by omega) w55) rfl ?_
      by_cases c57 : ¬ (fx_b q56.1) = 0
      · rw [if_pos c57] at h
        refine fs_if_ne_t (off := 5) (t := 26) (by decide +kernel) (by decide +kernel) c57 ?_
        exact fe_145_26 hd _ _ _ h
      · rw [if_neg c57] at h
        refine fs_if_ne_f (off := 5) (t := 26) (p := 24) (by decide +kernel) (by decide +kernel) rfl c57 ?_
        refine fs_iconst (n := -1) (p := 25) (by decide +kernel) rfl kc_m1 ?_
        have h := Option.some.inj h
        subst h
        exact fs_iret (by decide +kernel) rt_145

/-! ZoneSharesModel.readsPart()V -/
theorem mx_146 : iv_mx 146 = 5 := by decide +kernel
theorem rt_146 : iv_rt 146 = none := by decide +kernel
def fm_146_236 (x2 : Int32) (x4 : Int32) (σ : fx_S) : Option (fx_S) :=
  (fx_st σ 220 x2 x4).bind fun t1 =>
  some (fx_w1 t1 215 11 ((t1.1 215 11) ||| ((1 : Int32) <<< (x2 &&& 31))))
theorem fe_146_236 {d : Nat} (hd : 2 ≤ d) (x2 : Int32) (x4 : Int32) (o1 : Option Value) (o3 : Option Value) (σ : fx_S) (q : fx_S) (h : fm_146_236  x2 x4 σ = some q) : fx_E none 146 d 236 [some (.ref 215), o1, some (.int x2), o3, some (.int x4)] [] σ none q := by
  unfold fm_146_236 at h
  refine fs_aload_n (k := 0) (p := 237) (by decide +kernel) rfl rfl ?_
  refine fs_gfr (idx := 23) (ci := 10) (j := 10) (p := 240) (by decide +kernel) rfl (by decide +kernel) fo_215 (fr_a215_10) ?_
  refine fs_iload_n (k := 2) (p := 241) (by decide +kernel) rfl rfl ?_
  refine fs_iload (k := 4) (p := 243) (by decide +kernel) rfl rfl ?_
  obtain ⟨t1, w2, h⟩ := fx_bd h
  refine fs_iastore (p := 244) (by decide +kernel) rfl w2 ?_
  refine fs_aload_n (k := 0) (p := 245) (by decide +kernel) rfl rfl ?_
  refine fs_dup (p := 246) (by decide +kernel) rfl rfl ?_
  refine fs_gfi (idx := 173) (ci := 10) (j := 11) (p := 249) (by decide +kernel) rfl (by decide +kernel) fo_215 ?_
  refine fs_iconst (n := 1) (p := 250) (by decide +kernel) rfl kc_1 ?_
  refine fs_iload_n (k := 2) (p := 251) (by decide +kernel) rfl rfl ?_
  refine fs_ishl (p := 252) (by decide +kernel) rfl ?_
  refine fs_ior (p := 253) (by decide +kernel) rfl ?_
  refine fs_pfi (idx := 173) (ci := 10) (j := 11) (p := 256) (by decide +kernel) rfl (by decide +kernel) (by decide +kernel) fo_215 (fx_oki _ (by decide +kernel)) ?_
  have h := Option.some.inj h
  subst h
  exact fs_ret (by decide +kernel) rt_146
def fm_146_222 (x2 : Int32) (x3 : Int32) (x4 : Int32) (σ : fx_S) : Option (fx_S) :=
  if x4 ≤ (9999 : Int32) then (
    fm_146_236 x2 x4 σ) else (
    (fm_139 (2 : Int32) x3 σ).bind fun q4 =>
    fm_146_236 x2 x4 q4)
theorem fe_146_222 {d : Nat} (hd : 2 ≤ d) (x2 : Int32) (x3 : Int32) (x4 : Int32) (o1 : Option Value) (σ : fx_S) (q : fx_S) (h : fm_146_222  x2 x3 x4 σ = some q) : fx_E none 146 d 222 [some (.ref 215), o1, some (.int x2), some (.int x3), some (.int x4)] [] σ none q := by
  unfold fm_146_222 at h
  refine fs_iload (k := 4) (p := 224) (by decide +kernel) rfl rfl ?_
  refine fs_sipush (n := 9999) (p := 227) (by decide +kernel) rfl ks_9999 ?_
  by_cases c2 : x4 ≤ (9999 : Int32)
  · rw [if_pos c2] at h
    refine fs_icmp_le_t (off := 9) (t := 236) (by decide +kernel) (by decide +kernel) c2 ?_
    exact fe_146_236 hd _ _ _ _ _ _ h
  · rw [if_neg c2] at h
    refine fs_icmp_le_f (off := 9) (t := 236) (p := 230) (by decide +kernel) (by decide +kernel) rfl c2 ?_
    refine fs_aload_n (k := 0) (p := 231) (by decide +kernel) rfl rfl ?_
    refine fs_iconst (n := 2) (p := 232) (by decide +kernel) rfl kc_2 ?_
    refine fs_iload_n (k := 3) (p := 233) (by decide +kernel) rfl rfl ?_
    obtain ⟨q4, w3, h⟩ := fx_bd h
    refine fs_callV (idx := 144) (mj := 139) (ci := 10) (na := 2) (mx := 3) (p := 236) (args := [.ref 215, .int (2 : Int32), .int x3]) (rest := []) (al2 := [some (.ref 215), some (.int (2 : Int32)), some (.int x3)]) (by decide +kernel) rfl (by decide +kernel) fo_215 rfl rfl rfl rfl rfl rfl rfl (by omega) (fun d' hd' => fe_139 (by omega) w3) rfl ?_
    exact fe_146_236 hd _ _ _ _ _ _ h
def fm_146_164 : Nat → Int32 → Int32 → Int32 → fx_S → Option (fx_S)
  | 0, _, _, _, _ => none
  | n + 1, x2, x3, x4, σ =>
    (fm_138 σ).bind fun q2 =>
    if (fx_b q2.1) = 0 then (
      fm_146_222 x2 x3 x4 q2.2) else (
      (fm_137 q2.2).bind fun q5 =>
      (fm_130 (q5.1).toInt64 (48 : Int64) (57 : Int64) q5.2).bind fun q8 =>
      if (fx_b q8.1) = 0 then (
        fm_146_222 x2 x3 x4 q8.2) else (
        (fm_137 q8.2).bind fun q11 =>
        fm_146_164 n x2 x3 (if ((((10 : Int32) * x4) + q11.1) - (48 : Int32)) < (10000 : Int32) then ((((10 : Int32) * x4) + q11.1) - (48 : Int32)) else (10000 : Int32)) (fx_w1 q11.2 215 5 ((q11.2.1 215 5) + (1 : Int32)))))
theorem fe_146_164 {d : Nat} (hd : 2 ≤ d) : ∀ (n : Nat) (x2 : Int32) (x3 : Int32) (x4 : Int32) (o1 : Option Value) (σ : fx_S) (q : fx_S), fm_146_164 n x2 x3 x4 σ = some q → fx_E none 146 d 164 [some (.ref 215), o1, some (.int x2), some (.int x3), some (.int x4)] [] σ none q := by
  intro n
  induction n with
  | zero =>
    intro x2 x3 x4 o1 σ q  h
    rw [fm_146_164] at h
    exact fx_no h
  | succ n ih =>
    intro x2 x3 x4 o1 σ q  h
    rw [fm_146_164] at h
    refine fs_aload_n (k := 0) (p := 165) (by decide +kernel) rfl rfl ?_
    obtain ⟨q2, w1, h⟩ := fx_bd h
    refine fs_callV (idx := 120) (mj := 138) (ci := 10) (na := 0) (mx := 1) (p := 168) (args := [.ref 215]) (rest := []) (al2 := [some (.ref 215)]) (by decide +kernel) rfl (by decide +kernel) fo_215 rfl rfl rfl rfl rfl rfl rfl (by omega) (fun d' hd' => fe_138 (by omega) w1) rfl ?_
    by_cases c3 : (fx_b q2.1) = 0
    · rw [if_pos c3] at h
      refine fs_if_eq_t (off := 54) (t := 222) (by decide +kernel) (by decide +kernel) c3 ?_
      exact fe_146_222 hd _ _ _ _ _ _ h
    · rw [if_neg c3] at h
      refine fs_if_eq_f (off := 54) (t := 222) (p := 171) (by decide +kernel) (by decide +kernel) rfl c3 ?_
      refine fs_aload_n (k := 0) (p := 172) (by decide +kernel) rfl rfl ?_
      obtain ⟨q5, w4, h⟩ := fx_bd h
      refine fs_callV (idx := 136) (mj := 137) (ci := 10) (na := 0) (mx := 1) (p := 175) (args := [.ref 215]) (rest := []) (al2 := [some (.ref 215)]) (by decide +kernel) rfl (by decide +kernel) fo_215 rfl rfl rfl rfl rfl rfl rfl (by omega) (fun d' hd' => fe_137 (by omega) w4) rfl ?_
      refine fs_i2l (p := 176) (by decide +kernel) rfl ?_
      refine fs_ldc2 (idx := 124) (p := 179) (x := 48) (by decide +kernel) rfl (by decide +kernel) ?_
      refine fs_ldc2 (idx := 176) (p := 182) (x := 57) (by decide +kernel) rfl (by decide +kernel) ?_
      obtain ⟨q8, w7, h⟩ := fx_bd h
      refine fs_callS (idx := 128) (mj := 130) (na := 3) (mx := 6) (p := 185) (args := [.long (q5.1).toInt64, .long (48 : Int64), .long (57 : Int64)]) (rest := []) (al2 := [some (.long (q5.1).toInt64), none, some (.long (48 : Int64)), none, some (.long (57 : Int64)), none]) (by decide +kernel) rfl (by decide +kernel) rfl rfl rfl rfl rfl rfl rfl (by omega) (fun d' hd' => fe_130 (by omega) w7) rfl ?_
      by_cases c9 : (fx_b q8.1) = 0
      · rw [if_pos c9] at h
        refine fs_if_eq_t (off := 37) (t := 222) (by decide +kernel) (by decide +kernel) c9 ?_
        exact fe_146_222 hd _ _ _ _ _ _ h
      · rw [if_neg c9] at h
        refine fs_if_eq_f (off := 37) (t := 222) (p := 188) (by decide +kernel) (by decide +kernel) rfl c9 ?_
        refine fs_sipush (n := 10000) (p := 191) (by decide +kernel) rfl ks_10000 ?_
        refine fs_bipush (n := 10) (p := 193) (by decide +kernel) rfl kb_10 ?_
        refine fs_iload (k := 4) (p := 195) (by decide +kernel) rfl rfl ?_
        refine fs_imul (p := 196) (by decide +kernel) rfl ?_
        refine fs_aload_n (k := 0) (p := 197) (by decide +kernel) rfl rfl ?_
        obtain ⟨q11, w10, h⟩ := fx_bd h
        refine fs_callV (idx := 136) (mj := 137) (ci := 10) (na := 0) (mx := 1) (p := 200) (args := [.ref 215]) (rest := [.int ((10 : Int32) * x4), .int (10000 : Int32)]) (al2 := [some (.ref 215)]) (by decide +kernel) rfl (by decide +kernel) fo_215 rfl rfl rfl rfl rfl rfl rfl (by omega) (fun d' hd' => fe_137 (by omega) w10) rfl ?_
        refine fs_iadd (p := 201) (by decide +kernel) rfl ?_
        refine fs_bipush (n := 48) (p := 203) (by decide +kernel) rfl kb_48 ?_
        refine fs_isub (p := 204) (by decide +kernel) rfl ?_
        refine fs_min (idx := 178) (p := 207) (by decide +kernel) rfl (by decide +kernel) rfl ?_
        refine fs_istore (k := 4) (p := 209) (M := 5) (al' := [some (.ref 215), o1, some (.int x2), some (.int x3), some (.int (if ((((10 : Int32) * x4) + q11.1) - (48 : Int32)) < (10000 : Int32) then ((((10 : Int32) * x4) + q11.1) - (48 : Int32)) else (10000 : Int32)))]) (by decide +kernel) rfl mx_146 rfl rfl ?_
        refine fs_aload_n (k := 0) (p := 210) (by decide +kernel) rfl rfl ?_
        refine fs_dup (p := 211) (by decide +kernel) rfl rfl ?_
        refine fs_gfi (idx := 114) (ci := 10) (j := 5) (p := 214) (by decide +kernel) rfl (by decide +kernel) fo_215 ?_
        refine fs_iconst (n := 1) (p := 215) (by decide +kernel) rfl kc_1 ?_
        refine fs_iadd (p := 216) (by decide +kernel) rfl ?_
        refine fs_pfi (idx := 114) (ci := 10) (j := 5) (p := 219) (by decide +kernel) rfl (by decide +kernel) (by decide +kernel) fo_215 (fx_oki _ (by decide +kernel)) ?_
        refine fs_goto (off := -55) (p := 164) (by decide +kernel) (by decide +kernel) ?_
        exact ih _ _ _ _ _ _ h
def fm_146_161 (x2 : Int32) (x3 : Int32) (σ : fx_S) : Option (fx_S) :=
  fm_146_164 100000 x2 x3 (0 : Int32) σ
theorem fe_146_161 {d : Nat} (hd : 2 ≤ d) (x2 : Int32) (x3 : Int32) (o1 : Option Value) (σ : fx_S) (q : fx_S) (h : fm_146_161  x2 x3 σ = some q) : fx_E none 146 d 161 [some (.ref 215), o1, some (.int x2), some (.int x3), none] [] σ none q := by
  unfold fm_146_161 at h
  refine fs_iconst (n := 0) (p := 162) (by decide +kernel) rfl kc_0 ?_
  refine fs_istore (k := 4) (p := 164) (M := 5) (al' := [some (.ref 215), o1, some (.int x2), some (.int x3), some (.int (0 : Int32))]) (by decide +kernel) rfl mx_146 rfl rfl ?_
  exact fe_146_164 hd 100000 _ _ _ _ _ _ h
def fm_146_113 (x2 : Int32) (σ : fx_S) : Option (fx_S) :=
  (fm_138 (fx_w1 σ 215 5 ((σ.1 215 5) + (1 : Int32)))).bind fun q2 =>
  if (fx_b q2.1) = 0 then (
    fm_146_161 x2 ((fx_w1 σ 215 5 ((σ.1 215 5) + (1 : Int32))).1 215 5) q2.2) else (
    (fm_137 q2.2).bind fun q5 =>
    (fm_130 (q5.1).toInt64 (48 : Int64) (57 : Int64) q5.2).bind fun q8 =>
    if ¬ (fx_b q8.1) = 0 then (
      fm_146_161 x2 ((fx_w1 σ 215 5 ((σ.1 215 5) + (1 : Int32))).1 215 5) q8.2) else (
      (fm_139 (1 : Int32) (q8.2.1 215 5) q8.2).bind fun q11 =>
      fm_146_161 x2 ((fx_w1 σ 215 5 ((σ.1 215 5) + (1 : Int32))).1 215 5) q11))
theorem fe_146_113 {d : Nat} (hd : 2 ≤ d) (x2 : Int32) (o1 : Option Value) (σ : fx_S) (q : fx_S) (h : fm_146_113  x2 σ = some q) : fx_E none 146 d 113 [some (.ref 215), o1, some (.int x2), none, none] [] σ none q := by
  unfold fm_146_113 at h
  refine fs_aload_n (k := 0) (p := 114) (by decide +kernel) rfl rfl ?_
  refine fs_dup (p := 115) (by decide +kernel) rfl rfl ?_
  refine fs_gfi (idx := 114) (ci := 10) (j := 5) (p := 118) (by decide +kernel) rfl (by decide +kernel) fo_215 ?_
  refine fs_iconst (n := 1) (p := 119) (by decide +kernel) rfl kc_1 ?_
  refine fs_iadd (p := 120) (by decide +kernel) rfl ?_
  refine fs_pfi (idx := 114) (ci := 10) (j := 5) (p := 123) (by decide +kernel) rfl (by decide +kernel) (by decide +kernel) fo_215 (fx_oki _ (by decide +kernel)) ?_
  refine fs_aload_n (k := 0) (p := 124) (by decide +kernel) rfl rfl ?_
  refine fs_gfi (idx := 114) (ci := 10) (j := 5) (p := 127) (by decide +kernel) rfl (by decide +kernel) fo_215 ?_
  refine fs_istore_n (k := 3) (p := 128) (M := 5) (al' := [some (.ref 215), o1, some (.int x2), some (.int ((fx_w1 σ 215 5 ((σ.1 215 5) + (1 : Int32))).1 215 5)), none]) (by decide +kernel) rfl mx_146 rfl rfl ?_
  refine fs_aload_n (k := 0) (p := 129) (by decide +kernel) rfl rfl ?_
  obtain ⟨q2, w1, h⟩ := fx_bd h
  refine fs_callV (idx := 120) (mj := 138) (ci := 10) (na := 0) (mx := 1) (p := 132) (args := [.ref 215]) (rest := []) (al2 := [some (.ref 215)]) (by decide +kernel) rfl (by decide +kernel) fo_215 rfl rfl rfl rfl rfl rfl rfl (by omega) (fun d' hd' => fe_138 (by omega) w1) rfl ?_
  by_cases c3 : (fx_b q2.1) = 0
  · rw [if_pos c3] at h
    refine fs_if_eq_t (off := 29) (t := 161) (by decide +kernel) (by decide +kernel) c3 ?_
    exact fe_146_161 hd _ _ _ _ _ h
  · rw [if_neg c3] at h
    refine fs_if_eq_f (off := 29) (t := 161) (p := 135) (by decide +kernel) (by decide +kernel) rfl c3 ?_
    refine fs_aload_n (k := 0) (p := 136) (by decide +kernel) rfl rfl ?_
    obtain ⟨q5, w4, h⟩ := fx_bd h
    refine fs_callV (idx := 136) (mj := 137) (ci := 10) (na := 0) (mx := 1) (p := 139) (args := [.ref 215]) (rest := []) (al2 := [some (.ref 215)]) (by decide +kernel) rfl (by decide +kernel) fo_215 rfl rfl rfl rfl rfl rfl rfl (by omega) (fun d' hd' => fe_137 (by omega) w4) rfl ?_
    refine fs_i2l (p := 140) (by decide +kernel) rfl ?_
    refine fs_ldc2 (idx := 124) (p := 143) (x := 48) (by decide +kernel) rfl (by decide +kernel) ?_
    refine fs_ldc2 (idx := 176) (p := 146) (x := 57) (by decide +kernel) rfl (by decide +kernel) ?_
    obtain ⟨q8, w7, h⟩ := fx_bd h
    refine fs_callS (idx := 128) (mj := 130) (na := 3) (mx := 6) (p := 149) (args := [.long (q5.1).toInt64, .long (48 : Int64), .long (57 : Int64)]) (rest := []) (al2 := [some (.long (q5.1).toInt64), none, some (.long (48 : Int64)), none, some (.long (57 : Int64)), none]) (by decide +kernel) rfl (by decide +kernel) rfl rfl rfl rfl rfl rfl rfl (by omega) (fun d' hd' => fe_130 (by omega) w7) rfl ?_
    by_cases c9 : ¬ (fx_b q8.1) = 0
    · rw [if_pos c9] at h
      refine fs_if_ne_t (off := 12) (t := 161) (by decide +kernel) (by decide +kernel) c9 ?_
      exact fe_146_161 hd _ _ _ _ _ h
    · rw [if_neg c9] at h
      refine fs_if_ne_f (off := 12) (t := 161) (p := 152) (by decide +kernel) (by decide +kernel) rfl c9 ?_
      refine fs_aload_n (k := 0) (p := 153) (by decide +kernel) rfl rfl ?_
      refine fs_iconst (n := 1) (p := 154) (by decide +kernel) rfl kc_1 ?_
      refine fs_aload_n (k := 0) (p := 155) (by decide +kernel) rfl rfl ?_
      refine fs_gfi (idx := 114) (ci := 10) (j := 5) (p := 158) (by decide +kernel) rfl (by decide +kernel) fo_215 ?_
      obtain ⟨q11, w10, h⟩ := fx_bd h
      refine fs_callV (idx := 144) (mj := 139) (ci := 10) (na := 2) (mx := 3) (p := 161) (args := [.ref 215, .int (1 : Int32), .int (q8.2.1 215 5)]) (rest := []) (al2 := [some (.ref 215), some (.int (1 : Int32)), some (.int (q8.2.1 215 5))]) (by decide +kernel) rfl (by decide +kernel) fo_215 rfl rfl rfl rfl rfl rfl rfl (by omega) (fun d' hd' => fe_139 (by omega) w10) rfl ?_
      exact fe_146_161 hd _ _ _ _ _ h
def fm_146_78 (x2 : Int32) (σ : fx_S) : Option (fx_S) :=
  (fm_138 (fx_w1 σ 215 5 ((σ.1 215 5) + (1 : Int32)))).bind fun q2 =>
  if (fx_b q2.1) = 0 then (
    fm_146_113 x2 q2.2) else (
    (fm_137 q2.2).bind fun q5 =>
    if q5.1 = (61 : Int32) then (
      fm_146_113 x2 q5.2) else (
      (fm_139 (1 : Int32) (q5.2.1 215 5) q5.2).bind fun q9 =>
      fm_146_113 x2 q9))
theorem fe_146_78 {d : Nat} (hd : 2 ≤ d) (x2 : Int32) (o1 : Option Value) (σ : fx_S) (q : fx_S) (h : fm_146_78  x2 σ = some q) : fx_E none 146 d 78 [some (.ref 215), o1, some (.int x2), none, none] [] σ none q := by
  unfold fm_146_78 at h
  refine fs_aload_n (k := 0) (p := 79) (by decide +kernel) rfl rfl ?_
  refine fs_dup (p := 80) (by decide +kernel) rfl rfl ?_
  refine fs_gfi (idx := 114) (ci := 10) (j := 5) (p := 83) (by decide +kernel) rfl (by decide +kernel) fo_215 ?_
  refine fs_iconst (n := 1) (p := 84) (by decide +kernel) rfl kc_1 ?_
  refine fs_iadd (p := 85) (by decide +kernel) rfl ?_
  refine fs_pfi (idx := 114) (ci := 10) (j := 5) (p := 88) (by decide +kernel) rfl (by decide +kernel) (by decide +kernel) fo_215 (fx_oki _ (by decide +kernel)) ?_
  refine fs_aload_n (k := 0) (p := 89) (by decide +kernel) rfl rfl ?_
  obtain ⟨q2, w1, h⟩ := fx_bd h
  refine fs_callV (idx := 120) (mj := 138) (ci := 10) (na := 0) (mx := 1) (p := 92) (args := [.ref 215]) (rest := []) (al2 := [some (.ref 215)]) (by decide +kernel) rfl (by decide +kernel) fo_215 rfl rfl rfl rfl rfl rfl rfl (by omega) (fun d' hd' => fe_138 (by omega) w1) rfl ?_
  by_cases c3 : (fx_b q2.1) = 0
  · rw [if_pos c3] at h
    refine fs_if_eq_t (off := 21) (t := 113) (by decide +kernel) (by decide +kernel) c3 ?_
    exact fe_146_113 hd _ _ _ _ h
  · rw [if_neg c3] at h
    refine fs_if_eq_f (off := 21) (t := 113) (p := 95) (by decide +kernel) (by decide +kernel) rfl c3 ?_
    refine fs_aload_n (k := 0) (p := 96) (by decide +kernel) rfl rfl ?_
    obtain ⟨q5, w4, h⟩ := fx_bd h
    refine fs_callV (idx := 136) (mj := 137) (ci := 10) (na := 0) (mx := 1) (p := 99) (args := [.ref 215]) (rest := []) (al2 := [some (.ref 215)]) (by decide +kernel) rfl (by decide +kernel) fo_215 rfl rfl rfl rfl rfl rfl rfl (by omega) (fun d' hd' => fe_137 (by omega) w4) rfl ?_
    refine fs_bipush (n := 61) (p := 101) (by decide +kernel) rfl kb_61 ?_
    by_cases c7 : q5.1 = (61 : Int32)
    · rw [if_pos c7] at h
      refine fs_icmp_eq_t (off := 12) (t := 113) (by decide +kernel) (by decide +kernel) c7 ?_
      exact fe_146_113 hd _ _ _ _ h
    · rw [if_neg c7] at h
      refine fs_icmp_eq_f (off := 12) (t := 113) (p := 104) (by decide +kernel) (by decide +kernel) rfl c7 ?_
      refine fs_aload_n (k := 0) (p := 105) (by decide +kernel) rfl rfl ?_
      refine fs_iconst (n := 1) (p := 106) (by decide +kernel) rfl kc_1 ?_
      refine fs_aload_n (k := 0) (p := 107) (by decide +kernel) rfl rfl ?_
      refine fs_gfi (idx := 114) (ci := 10) (j := 5) (p := 110) (by decide +kernel) rfl (by decide +kernel) fo_215 ?_
      obtain ⟨q9, w8, h⟩ := fx_bd h
      refine fs_callV (idx := 144) (mj := 139) (ci := 10) (na := 2) (mx := 3) (p := 113) (args := [.ref 215, .int (1 : Int32), .int (q5.2.1 215 5)]) (rest := []) (al2 := [some (.ref 215), some (.int (1 : Int32)), some (.int (q5.2.1 215 5))]) (by decide +kernel) rfl (by decide +kernel) fo_215 rfl rfl rfl rfl rfl rfl rfl (by omega) (fun d' hd' => fe_139 (by omega) w8) rfl ?_
      exact fe_146_113 hd _ _ _ _ h
def fm_146_47 (x1 : Int32) (s0 : Int32) (σ : fx_S) : Option (fx_S) :=
  if ¬ s0 = (-1 : Int32) then (
    if ¬ (((σ.1 215 11) >>> (s0 &&& 31)) &&& (1 : Int32)) = (1 : Int32) then (
      fm_146_78 s0 σ) else (
      (fm_139 (3 : Int32) x1 σ).bind fun q6 =>
      fm_146_78 s0 q6)) else (
    (fm_139 (1 : Int32) x1 σ).bind fun q8 =>
    some q8)
theorem fe_146_47 {d : Nat} (hd : 2 ≤ d) (x1 : Int32) (s0 : Int32) (σ : fx_S) (q : fx_S) (h : fm_146_47  x1 s0 σ = some q) : fx_E none 146 d 47 [some (.ref 215), some (.int x1), none, none, none] [.int s0] σ none q := by
  unfold fm_146_47 at h
  refine fs_istore_n (k := 2) (p := 48) (M := 5) (al' := [some (.ref 215), some (.int x1), some (.int s0), none, none]) (by decide +kernel) rfl mx_146 rfl rfl ?_
  refine fs_iload_n (k := 2) (p := 49) (by decide +kernel) rfl rfl ?_
  refine fs_iconst (n := -1) (p := 50) (by decide +kernel) rfl kc_m1 ?_
  by_cases c2 : ¬ s0 = (-1 : Int32)
  · rw [if_pos c2] at h
    refine fs_icmp_ne_t (off := 10) (t := 60) (by decide +kernel) (by decide +kernel) c2 ?_
    refine fs_aload_n (k := 0) (p := 61) (by decide +kernel) rfl rfl ?_
    refine fs_gfi (idx := 173) (ci := 10) (j := 11) (p := 64) (by decide +kernel) rfl (by decide +kernel) fo_215 ?_
    refine fs_iload_n (k := 2) (p := 65) (by decide +kernel) rfl rfl ?_
    refine fs_ishr (p := 66) (by decide +kernel) rfl ?_
    refine fs_iconst (n := 1) (p := 67) (by decide +kernel) rfl kc_1 ?_
    refine fs_iand (p := 68) (by decide +kernel) rfl ?_
    refine fs_iconst (n := 1) (p := 69) (by decide +kernel) rfl kc_1 ?_
    by_cases c4 : ¬ (((σ.1 215 11) >>> (s0 &&& 31)) &&& (1 : Int32)) = (1 : Int32)
    · rw [if_pos c4] at h
      refine fs_icmp_ne_t (off := 9) (t := 78) (by decide +kernel) (by decide +kernel) c4 ?_
      exact fe_146_78 hd _ _ _ _ h
    · rw [if_neg c4] at h
      refine fs_icmp_ne_f (off := 9) (t := 78) (p := 72) (by decide +kernel) (by decide +kernel) rfl c4 ?_
      refine fs_aload_n (k := 0) (p := 73) (by decide +kernel) rfl rfl ?_
      refine fs_iconst (n := 3) (p := 74) (by decide +kernel) rfl kc_3 ?_
      refine fs_iload_n (k := 1) (p := 75) (by decide +kernel) rfl rfl ?_
      obtain ⟨q6, w5, h⟩ := fx_bd h
      refine fs_callV (idx := 144) (mj := 139) (ci := 10) (na := 2) (mx := 3) (p := 78) (args := [.ref 215, .int (3 : Int32), .int x1]) (rest := []) (al2 := [some (.ref 215), some (.int (3 : Int32)), some (.int x1)]) (by decide +kernel) rfl (by decide +kernel) fo_215 rfl rfl rfl rfl rfl rfl rfl (by omega) (fun d' hd' => fe_139 (by omega) w5) rfl ?_
      exact fe_146_78 hd _ _ _ _ h
  · rw [if_neg c2] at h
    refine fs_icmp_ne_f (off := 10) (t := 60) (p := 53) (by decide +kernel) (by decide +kernel) rfl c2 ?_
    refine fs_aload_n (k := 0) (p := 54) (by decide +kernel) rfl rfl ?_
    refine fs_iconst (n := 1) (p := 55) (by decide +kernel) rfl kc_1 ?_
    refine fs_iload_n (k := 1) (p := 56) (by decide +kernel) rfl rfl ?_
    obtain ⟨q8, w7, h⟩ := fx_bd h
    refine fs_callV (idx := 144) (mj := 139) (ci := 10) (na := 2) (mx := 3) (p := 59) (args := [.ref 215, .int (1 : Int32), .int x1]) (rest := []) (al2 := [some (.ref 215), some (.int (1 : Int32)), some (.int x1)]) (by decide +kernel) rfl (by decide +kernel) fo_215 rfl rfl rfl rfl rfl rfl rfl (by omega) (fun d' hd' => fe_139 (by omega) w7) rfl ?_
    have h := Option.some.inj h
    subst h
    exact fs_ret (by decide +kernel) rt_146
def fm_146 (σ : fx_S) : Option (fx_S) :=
  (fm_137 σ).bind fun q61 =>
  if ¬ q61.1 = (63 : Int32) then (
    (fm_137 q61.2).bind fun q65 =>
    (fm_130 (q65.1).toInt64 (97 : Int64) (104 : Int64) q65.2).bind fun q68 =>
    if (fx_b q68.1) = 0 then (
      fm_146_47 (σ.1 215 5) (-1 : Int32) q68.2) else (
      (fm_137 q68.2).bind fun q71 =>
      fm_146_47 (σ.1 215 5) (q71.1 - (97 : Int32)) q71.2)) else (
    fm_146_47 (σ.1 215 5) (8 : Int32) q61.2)
theorem fe_146 {d : Nat} (hd : 2 ≤ d) {σ : fx_S} {q : fx_S} (h : fm_146 σ = some q) : fx_E none 146 d 0 [some (.ref 215), none, none, none, none] [] σ none q := by
  unfold fm_146 at h
  refine fs_aload_n (k := 0) (p := 1) (by decide +kernel) rfl rfl ?_
  refine fs_gfi (idx := 114) (ci := 10) (j := 5) (p := 4) (by decide +kernel) rfl (by decide +kernel) fo_215 ?_
  refine fs_istore_n (k := 1) (p := 5) (M := 5) (al' := [some (.ref 215), some (.int (σ.1 215 5)), none, none, none]) (by decide +kernel) rfl mx_146 rfl rfl ?_
  refine fs_aload_n (k := 0) (p := 6) (by decide +kernel) rfl rfl ?_
  obtain ⟨q61, w60, h⟩ := fx_bd h
  refine fs_callV (idx := 136) (mj := 137) (ci := 10) (na := 0) (mx := 1) (p := 9) (args := [.ref 215]) (rest := []) (al2 := [some (.ref 215)]) (by decide +kernel) rfl (by decide +kernel) fo_215 rfl rfl rfl rfl rfl rfl rfl (by omega) (fun d' hd' => fe_137 (by omega) w60) rfl ?_
  refine fs_bipush (n := 63) (p := 11) (by decide +kernel) rfl kb_63 ?_
  by_cases c63 : ¬ q61.1 = (63 : Int32)
  · rw [if_pos c63] at h
    refine fs_icmp_ne_t (off := 8) (t := 19) (by decide +kernel) (by decide +kernel) c63 ?_
    refine fs_aload_n (k := 0) (p := 20) (by decide +kernel) rfl rfl ?_
    obtain ⟨q65, w64, h⟩ := fx_bd h
    refine fs_callV (idx := 136) (mj := 137) (ci := 10) (na := 0) (mx := 1) (p := 23) (args := [.ref 215]) (rest := []) (al2 := [some (.ref 215)]) (by decide +kernel) rfl (by decide +kernel) fo_215 rfl rfl rfl rfl rfl rfl rfl (by omega) (fun d' hd' => fe_137 (by omega) w64) rfl ?_
    refine fs_i2l (p := 24) (by decide +kernel) rfl ?_
    refine fs_ldc2 (idx := 132) (p := 27) (x := 97) (by decide +kernel) rfl (by decide +kernel) ?_
    refine fs_ldc2 (idx := 134) (p := 30) (x := 104) (by decide +kernel) rfl (by decide +kernel) ?_
    obtain ⟨q68, w67, h⟩ := fx_bd h
    refine fs_callS (idx := 128) (mj := 130) (na := 3) (mx := 6) (p := 33) (args := [.long (q65.1).toInt64, .long (97 : Int64), .long (104 : Int64)]) (rest := []) (al2 := [some (.long (q65.1).toInt64), none, some (.long (97 : Int64)), none, some (.long (104 : Int64)), none]) (by decide +kernel) rfl (by decide +kernel) rfl rfl rfl rfl rfl rfl rfl (by omega) (fun d' hd' => fe_130 (by omega) w67) rfl ?_
    by_cases c69 : (fx_b q68.1) = 0
    · rw [if_pos c69] at h
      refine fs_if_eq_t (off := 13) (t := 46) (by decide +kernel) (by decide +kernel) c69 ?_
      refine fs_iconst (n := -1) (p := 47) (by decide +kernel) rfl kc_m1 ?_
      exact fe_146_47 hd _ _ _ _ h
    · rw [if_neg c69] at h
      refine fs_if_eq_f (off := 13) (t := 46) (p := 36) (by decide +kernel) (by decide +kernel) rfl c69 ?_
      refine fs_aload_n (k := 0) (p := 37) (by decide +kernel) rfl rfl ?_
      obtain ⟨q71, w70, h⟩ := fx_bd h
      refine fs_callV (idx := 136) (mj := 137) (ci := 10) (na := 0) (mx := 1) (p := 40) (args := [.ref 215]) (rest := []) (al2 := [some (.ref 215)]) (by decide +kernel) rfl (by decide +kernel) fo_215 rfl rfl rfl rfl rfl rfl rfl (by omega) (fun d' hd' => fe_137 (by omega) w70) rfl ?_
      refine fs_bipush (n := 97) (p := 42) (by decide +kernel) rfl kb_97 ?_
      refine fs_isub (p := 43) (by decide +kernel) rfl ?_
      refine fs_goto (off := 4) (p := 47) (by decide +kernel) (by decide +kernel) ?_
      exact fe_146_47 hd _ _ _ _ h
  · rw [if_neg c63] at h
    refine fs_icmp_ne_f (off := 8) (t := 19) (p := 14) (by decide +kernel) (by decide +kernel) rfl c63 ?_
    refine fs_bipush (n := 8) (p := 16) (by decide +kernel) rfl kb_8 ?_
    refine fs_goto (off := 31) (p := 47) (by decide +kernel) (by decide +kernel) ?_
    exact fe_146_47 hd _ _ _ _ h

/-! ZoneSharesModel.readsCounts()V -/
theorem mx_147 : iv_mx 147 = 2 := by decide +kernel
theorem rt_147 : iv_rt 147 = none := by decide +kernel
def fm_147_78 (k_49 : Int32 → fx_S → Option (fx_S)) (s0 : Int32) (σ : fx_S) : Option (fx_S) :=
  (fm_131 s0 σ).bind fun q2 =>
  k_49 s0 (fx_w1 q2.2 215 5 ((σ.1 215 5) + q2.1))
theorem fe_147_78 {d : Nat} (hd : 3 ≤ d) {k_49 : Int32 → fx_S → Option (fx_S)} (hk_49 : ∀ (x1 : Int32) (σ : fx_S) (q : fx_S), k_49 x1 σ = some q → fx_E none 147 d 49 [some (.ref 215), some (.int x1)] [] σ none q) (s0 : Int32) (o1 : Option Value) (σ : fx_S) (q : fx_S) (h : fm_147_78 k_49  s0 σ = some q) : fx_E none 147 d 78 [some (.ref 215), o1] [.int s0] σ none q := by
  unfold fm_147_78 at h
  refine fs_istore_n (k := 1) (p := 79) (M := 2) (al' := [some (.ref 215), some (.int s0)]) (by decide +kernel) rfl mx_147 rfl rfl ?_
  refine fs_aload_n (k := 0) (p := 80) (by decide +kernel) rfl rfl ?_
  refine fs_dup (p := 81) (by decide +kernel) rfl rfl ?_
  refine fs_gfi (idx := 114) (ci := 10) (j := 5) (p := 84) (by decide +kernel) rfl (by decide +kernel) fo_215 ?_
  refine fs_iload_n (k := 1) (p := 85) (by decide +kernel) rfl rfl ?_
  obtain ⟨q2, w1, h⟩ := fx_bd h
  refine fs_callS (idx := 186) (mj := 131) (na := 1) (mx := 1) (p := 88) (args := [.int s0]) (rest := [.int (σ.1 215 5), .ref 215]) (al2 := [some (.int s0)]) (by decide +kernel) rfl (by decide +kernel) rfl rfl rfl rfl rfl rfl rfl (by omega) (fun d' hd' => fe_131 (by omega) w1) rfl ?_
  refine fs_iadd (p := 89) (by decide +kernel) rfl ?_
  refine fs_pfi (idx := 114) (ci := 10) (j := 5) (p := 92) (by decide +kernel) rfl (by decide +kernel) (by decide +kernel) fo_215 (fx_oki _ (by decide +kernel)) ?_
  refine fs_goto (off := -43) (p := 49) (by decide +kernel) (by decide +kernel) ?_
  exact hk_49 _ _ _ h
def fm_147_49 : Nat → Int32 → fx_S → Option (fx_S)
  | 0, _, _ => none
  | n + 1, x1, σ =>
    if x1 = 0 then (
      (fm_138 σ).bind fun q4 =>
      if (fx_b q4.1) = 0 then (
        some q4.2) else (
        (fm_137 q4.2).bind fun q7 =>
        if q7.1 = (-1 : Int32) then (
          some q7.2) else (
          (fm_139 (1 : Int32) (q7.2.1 215 5) q7.2).bind fun q11 =>
          some q11))) else (
      (fm_146 σ).bind fun q13 =>
      (fm_138 q13).bind fun q15 =>
      if (fx_b q15.1) = 0 then (
        fm_147_78 (fm_147_49 n) (0 : Int32) q15.2) else (
        (fm_137 q15.2).bind fun q18 =>
        if ¬ q18.1 = (44 : Int32) then (
          fm_147_78 (fm_147_49 n) (0 : Int32) q18.2) else (
          fm_147_78 (fm_147_49 n) (1 : Int32) q18.2)))
theorem fe_147_49 {d : Nat} (hd : 3 ≤ d) : ∀ (n : Nat) (x1 : Int32) (σ : fx_S) (q : fx_S), fm_147_49 n x1 σ = some q → fx_E none 147 d 49 [some (.ref 215), some (.int x1)] [] σ none q := by
  intro n
  induction n with
  | zero =>
    intro x1 σ q  h
    rw [fm_147_49] at h
    exact fx_no h
  | succ n ih =>
    intro x1 σ q  h
    rw [fm_147_49] at h
    refine fs_iload_n (k := 1) (p := 50) (by decide +kernel) rfl rfl ?_
    by_cases c2 : x1 = 0
    · rw [if_pos c2] at h
      refine fs_if_eq_t (off := 45) (t := 95) (by decide +kernel) (by decide +kernel) c2 ?_
      refine fs_aload_n (k := 0) (p := 96) (by decide +kernel) rfl rfl ?_
      obtain ⟨q4, w3, h⟩ := fx_bd h
      refine fs_callV (idx := 120) (mj := 138) (ci := 10) (na := 0) (mx := 1) (p := 99) (args := [.ref 215]) (rest := []) (al2 := [some (.ref 215)]) (by decide +kernel) rfl (by decide +kernel) fo_215 rfl rfl rfl rfl rfl rfl rfl (by omega) (fun d' hd' => fe_138 (by omega) w3) rfl ?_
      by_cases c5 : (fx_b q4.1) = 0
      · rw [if_pos c5] at h
        refine fs_if_eq_t (off := 20) (t := 119) (by decide +kernel) (by decide +kernel) c5 ?_
        have h := Option.some.inj h
        subst h
        exact fs_ret (by decide +kernel) rt_147
      · rw [if_neg c5] at h
        refine fs_if_eq_f (off := 20) (t := 119) (p := 102) (by decide +kernel) (by decide +kernel) rfl c5 ?_
        refine fs_aload_n (k := 0) (p := 103) (by decide +kernel) rfl rfl ?_
        obtain ⟨q7, w6, h⟩ := fx_bd h
        refine fs_callV (idx := 136) (mj := 137) (ci := 10) (na := 0) (mx := 1) (p := 106) (args := [.ref 215]) (rest := []) (al2 := [some (.ref 215)]) (by decide +kernel) rfl (by decide +kernel) fo_215 rfl rfl rfl rfl rfl rfl rfl (by omega) (fun d' hd' => fe_137 (by omega) w6) rfl ?_
        refine fs_iconst (n := -1) (p := 107) (by decide +kernel) rfl kc_m1 ?_
        by_cases c9 : q7.1 = (-1 : Int32)
        · rw [if_pos c9] at h
          refine fs_icmp_eq_t (off := 12) (t := 119) (by decide +kernel) (by decide +kernel) c9 ?_
          have h := Option.some.inj h
          subst h
          exact fs_ret (by decide +kernel) rt_147
        · rw [if_neg c9] at h
          refine fs_icmp_eq_f (off := 12) (t := 119) (p := 110) (by decide +kernel) (by decide +kernel) rfl c9 ?_
          refine fs_aload_n (k := 0) (p := 111) (by decide +kernel) rfl rfl ?_
          refine fs_iconst (n := 1) (p := 112) (by decide +kernel) rfl kc_1 ?_
          refine fs_aload_n (k := 0) (p := 113) (by decide +kernel) rfl rfl ?_
          refine fs_gfi (idx := 114) (ci := 10) (j := 5) (p := 116) (by decide +kernel) rfl (by decide +kernel) fo_215 ?_
          obtain ⟨q11, w10, h⟩ := fx_bd h
          refine fs_callV (idx := 144) (mj := 139) (ci := 10) (na := 2) (mx := 3) (p := 119) (args := [.ref 215, .int (1 : Int32), .int (q7.2.1 215 5)]) (rest := []) (al2 := [some (.ref 215), some (.int (1 : Int32)), some (.int (q7.2.1 215 5))]) (by decide +kernel) rfl (by decide +kernel) fo_215 rfl rfl rfl rfl rfl rfl rfl (by omega) (fun d' hd' => fe_139 (by omega) w10) rfl ?_
          have h := Option.some.inj h
          subst h
          exact fs_ret (by decide +kernel) rt_147
    · rw [if_neg c2] at h
      refine fs_if_eq_f (off := 45) (t := 95) (p := 53) (by decide +kernel) (by decide +kernel) rfl c2 ?_
      refine fs_aload_n (k := 0) (p := 54) (by decide +kernel) rfl rfl ?_
      obtain ⟨q13, w12, h⟩ := fx_bd h
      refine fs_callV (idx := 183) (mj := 146) (ci := 10) (na := 0) (mx := 5) (p := 57) (args := [.ref 215]) (rest := []) (al2 := [some (.ref 215), none, none, none, none]) (by decide +kernel) rfl (by decide +kernel) fo_215 rfl rfl rfl rfl rfl rfl rfl (by omega) (fun d' hd' => fe_146 (by omega) w12) rfl ?_
      refine fs_aload_n (k := 0) (p := 58) (by decide +kernel) rfl rfl ?_
      obtain ⟨q15, w14, h⟩ := fx_bd h
      refine fs_callV (idx := 120) (mj := 138) (ci := 10) (na := 0) (mx := 1) (p := 61) (args := [.ref 215]) (rest := []) (al2 := [some (.ref 215)]) (by decide +kernel) rfl (by decide +kernel) fo_215 rfl rfl rfl rfl rfl rfl rfl (by omega) (fun d' hd' => fe_138 (by omega) w14) rfl ?_
      by_cases c16 : (fx_b q15.1) = 0
      · rw [if_pos c16] at h
        refine fs_if_eq_t (off := 16) (t := 77) (by decide +kernel) (by decide +kernel) c16 ?_
        refine fs_iconst (n := 0) (p := 78) (by decide +kernel) rfl kc_0 ?_
        exact fe_147_78 hd ih _ _ _ _ h
      · rw [if_neg c16] at h
        refine fs_if_eq_f (off := 16) (t := 77) (p := 64) (by decide +kernel) (by decide +kernel) rfl c16 ?_
        refine fs_aload_n (k := 0) (p := 65) (by decide +kernel) rfl rfl ?_
        obtain ⟨q18, w17, h⟩ := fx_bd h
        refine fs_callV (idx := 136) (mj := 137) (ci := 10) (na := 0) (mx := 1) (p := 68) (args := [.ref 215]) (rest := []) (al2 := [some (.ref 215)]) (by decide +kernel) rfl (by decide +kernel) fo_215 rfl rfl rfl rfl rfl rfl rfl (by omega) (fun d' hd' => fe_137 (by omega) w17) rfl ?_
        refine fs_bipush (n := 44) (p := 70) (by decide +kernel) rfl kb_44 ?_
        by_cases c20 : ¬ q18.1 = (44 : Int32)
        · rw [if_pos c20] at h
          refine fs_icmp_ne_t (off := 7) (t := 77) (by decide +kernel) (by decide +kernel) c20 ?_
          refine fs_iconst (n := 0) (p := 78) (by decide +kernel) rfl kc_0 ?_
          exact fe_147_78 hd ih _ _ _ _ h
        · rw [if_neg c20] at h
          refine fs_icmp_ne_f (off := 7) (t := 77) (p := 73) (by decide +kernel) (by decide +kernel) rfl c20 ?_
          refine fs_iconst (n := 1) (p := 74) (by decide +kernel) rfl kc_1 ?_
          refine fs_goto (off := 4) (p := 78) (by decide +kernel) (by decide +kernel) ?_
          exact fe_147_78 hd ih _ _ _ _ h
def fm_147_48 (s0 : Int32) (σ : fx_S) : Option (fx_S) :=
  fm_147_49 100000 s0 σ
theorem fe_147_48 {d : Nat} (hd : 3 ≤ d) (s0 : Int32) (o1 : Option Value) (σ : fx_S) (q : fx_S) (h : fm_147_48  s0 σ = some q) : fx_E none 147 d 48 [some (.ref 215), o1] [.int s0] σ none q := by
  unfold fm_147_48 at h
  refine fs_istore_n (k := 1) (p := 49) (M := 2) (al' := [some (.ref 215), some (.int s0)]) (by decide +kernel) rfl mx_147 rfl rfl ?_
  exact fe_147_49 hd 100000 _ _ _ h
def fm_147_17 : Nat → Int32 → fx_S → Option (fx_S)
  | 0, _, _ => none
  | n + 1, x1, σ =>
    if (9 : Int32) ≤ x1 then (
      if (σ.1 215 4) ≤ 0 then (
        fm_147_48 (0 : Int32) σ) else (
        fm_147_48 (1 : Int32) σ)) else (
      (fx_st σ 220 x1 (0 : Int32)).bind fun t5 =>
      fm_147_17 n (x1 + (1 : Int32)) t5)
theorem fe_147_17 {d : Nat} (hd : 3 ≤ d) : ∀ (n : Nat) (x1 : Int32) (σ : fx_S) (q : fx_S), fm_147_17 n x1 σ = some q → fx_E none 147 d 17 [some (.ref 215), some (.int x1)] [] σ none q := by
  intro n
  induction n with
  | zero =>
    intro x1 σ q  h
    rw [fm_147_17] at h
    exact fx_no h
  | succ n ih =>
    intro x1 σ q  h
    rw [fm_147_17] at h
    refine fs_iload_n (k := 1) (p := 18) (by decide +kernel) rfl rfl ?_
    refine fs_bipush (n := 9) (p := 20) (by decide +kernel) rfl kb_9 ?_
    by_cases c2 : (9 : Int32) ≤ x1
    · rw [if_pos c2] at h
      refine fs_icmp_ge_t (off := 16) (t := 36) (by decide +kernel) (by decide +kernel) c2 ?_
      refine fs_aload_n (k := 0) (p := 37) (by decide +kernel) rfl rfl ?_
      refine fs_gfi (idx := 107) (ci := 10) (j := 4) (p := 40) (by decide +kernel) rfl (by decide +kernel) fo_215 ?_
      by_cases c4 : (σ.1 215 4) ≤ 0
      · rw [if_pos c4] at h
        refine fs_if_le_t (off := 7) (t := 47) (by decide +kernel) (by decide +kernel) c4 ?_
        refine fs_iconst (n := 0) (p := 48) (by decide +kernel) rfl kc_0 ?_
        exact fe_147_48 hd _ _ _ _ h
      · rw [if_neg c4] at h
        refine fs_if_le_f (off := 7) (t := 47) (p := 43) (by decide +kernel) (by decide +kernel) rfl c4 ?_
        refine fs_iconst (n := 1) (p := 44) (by decide +kernel) rfl kc_1 ?_
        refine fs_goto (off := 4) (p := 48) (by decide +kernel) (by decide +kernel) ?_
        exact fe_147_48 hd _ _ _ _ h
    · rw [if_neg c2] at h
      refine fs_icmp_ge_f (off := 16) (t := 36) (p := 23) (by decide +kernel) (by decide +kernel) rfl c2 ?_
      refine fs_aload_n (k := 0) (p := 24) (by decide +kernel) rfl rfl ?_
      refine fs_gfr (idx := 23) (ci := 10) (j := 10) (p := 27) (by decide +kernel) rfl (by decide +kernel) fo_215 (fr_a215_10) ?_
      refine fs_iload_n (k := 1) (p := 28) (by decide +kernel) rfl rfl ?_
      refine fs_iconst (n := 0) (p := 29) (by decide +kernel) rfl kc_0 ?_
      obtain ⟨t5, w6, h⟩ := fx_bd h
      refine fs_iastore (p := 30) (by decide +kernel) rfl w6 ?_
      refine fs_iinc (k := 1) (n := 1) (p := 33) (M := 2) (al' := [some (.ref 215), some (.int (x1 + (1 : Int32)))]) (by decide +kernel) rfl kc_1 mx_147 rfl rfl rfl ?_
      refine fs_goto (off := -16) (p := 17) (by decide +kernel) (by decide +kernel) ?_
      exact ih _ _ _ h
def fm_147 (σ : fx_S) : Option (fx_S) :=
  fm_147_17 100000 (0 : Int32) (fx_w1 (fx_w1 (fx_w1 σ 215 5 (0 : Int32)) 215 6 (-1 : Int32)) 215 11 (0 : Int32))
theorem fe_147 {d : Nat} (hd : 3 ≤ d) {σ : fx_S} {q : fx_S} (h : fm_147 σ = some q) : fx_E none 147 d 0 [some (.ref 215), none] [] σ none q := by
  unfold fm_147 at h
  refine fs_aload_n (k := 0) (p := 1) (by decide +kernel) rfl rfl ?_
  refine fs_iconst (n := 0) (p := 2) (by decide +kernel) rfl kc_0 ?_
  refine fs_pfi (idx := 114) (ci := 10) (j := 5) (p := 5) (by decide +kernel) rfl (by decide +kernel) (by decide +kernel) fo_215 (fx_oki _ (by decide +kernel)) ?_
  refine fs_aload_n (k := 0) (p := 6) (by decide +kernel) rfl rfl ?_
  refine fs_iconst (n := -1) (p := 7) (by decide +kernel) rfl kc_m1 ?_
  refine fs_pfi (idx := 117) (ci := 10) (j := 6) (p := 10) (by decide +kernel) rfl (by decide +kernel) (by decide +kernel) fo_215 (fx_oki _ (by decide +kernel)) ?_
  refine fs_aload_n (k := 0) (p := 11) (by decide +kernel) rfl rfl ?_
  refine fs_iconst (n := 0) (p := 12) (by decide +kernel) rfl kc_0 ?_
  refine fs_pfi (idx := 173) (ci := 10) (j := 11) (p := 15) (by decide +kernel) rfl (by decide +kernel) (by decide +kernel) fo_215 (fx_oki _ (by decide +kernel)) ?_
  refine fs_iconst (n := 0) (p := 16) (by decide +kernel) rfl kc_0 ?_
  refine fs_istore_n (k := 1) (p := 17) (M := 2) (al' := [some (.ref 215), some (.int (0 : Int32))]) (by decide +kernel) rfl mx_147 rfl rfl ?_
  exact fe_147_17 hd 100000 _ _ _ h

/-! ZoneSharesModel.isGroup(I)Z -/
theorem mx_148 : iv_mx 148 = 1 := by decide +kernel
theorem rt_148 : iv_rt 148 = some .boolean := by decide +kernel
def fm_148 (x0 : Int32) (σ : fx_S) : Option (Bool × fx_S) :=
  (fm_130 (x0).toInt64 (0 : Int64) (2 : Int64) σ).bind fun q6 =>
  some (q6.1, q6.2)
theorem fe_148 {d : Nat} (hd : 1 ≤ d) {x0 : Int32} {σ : fx_S} {q : Bool × fx_S} (h : fm_148 x0 σ = some q) : fx_E none 148 d 0 [some (.int x0)] [] σ (some (.int (fx_b q.1))) q.2 := by
  unfold fm_148 at h
  refine fs_iload_n (k := 0) (p := 1) (by decide +kernel) rfl rfl ?_
  refine fs_i2l (p := 2) (by decide +kernel) rfl ?_
  refine fs_lconst (n := 0) (p := 3) (by decide +kernel) rfl kl_0 ?_
  refine fs_ldc2 (idx := 161) (p := 6) (x := 2) (by decide +kernel) rfl (by decide +kernel) ?_
  obtain ⟨q6, w5, h⟩ := fx_bd h
  refine fs_callS (idx := 128) (mj := 130) (na := 3) (mx := 6) (p := 9) (args := [.long (x0).toInt64, .long (0 : Int64), .long (2 : Int64)]) (rest := []) (al2 := [some (.long (x0).toInt64), none, some (.long (0 : Int64)), none, some (.long (2 : Int64)), none]) (by decide +kernel) rfl (by decide +kernel) rfl rfl rfl rfl rfl rfl rfl (by omega) (fun d' hd' => fe_130 (by omega) w5) rfl ?_
  have h := Option.some.inj h
  subst h
  exact fs_zret (b := q6.1) (by decide +kernel) rt_148

/-! ZoneSharesModel.counts(I)I -/
theorem mx_149 : iv_mx 149 = 4 := by decide +kernel
theorem rt_149 : iv_rt 149 = some .int := by decide +kernel
def fm_149_41 : Nat → Int32 → Int32 → Int32 → fx_S → Option (Int32 × fx_S)
  | 0, _, _, _, _ => none
  | n + 1, x1, x2, x3, σ =>
    if (9 : Int32) ≤ x3 then (
      some (x2, σ)) else (
      (fx_ld σ 220 x3).bind fun v3 =>
      (fx_st σ 216 (((5 : Int32) + ((9 : Int32) * x1)) + x3) v3).bind fun t6 =>
      (fx_ld t6 220 x3).bind fun v9 =>
      fm_149_41 n x1 (x2 + v9) (x3 + (1 : Int32)) t6)
theorem fe_149_41 {d : Nat} (hd : 4 ≤ d) : ∀ (n : Nat) (x1 : Int32) (x2 : Int32) (x3 : Int32) (σ : fx_S) (q : Int32 × fx_S), fm_149_41 n x1 x2 x3 σ = some q → fx_E none 149 d 41 [some (.ref 215), some (.int x1), some (.int x2), some (.int x3)] [] σ (some (.int q.1)) q.2 := by
  intro n
  induction n with
  | zero =>
    intro x1 x2 x3 σ q  h
    rw [fm_149_41] at h
    exact fx_no h
  | succ n ih =>
    intro x1 x2 x3 σ q  h
    rw [fm_149_41] at h
    refine fs_iload_n (k := 3) (p := 42) (by decide +kernel) rfl rfl ?_
    refine fs_bipush (n := 9) (p := 44) (by decide +kernel) rfl kb_9 ?_
    by_cases c2 : (9 : Int32) ≤ x3
    · rw [if_pos c2] at h
      refine fs_icmp_ge_t (off := 37) (t := 81) (by decide +kernel) (by decide +kernel) c2 ?_
      refine fs_iload_n (k := 2) (p := 82) (by decide +kernel) rfl rfl ?_
      have h := Option.some.inj h
      subst h
      exact fs_iret (by decide +kernel) rt_149
    · rw [if_neg c2] at h
      refine fs_icmp_ge_f (off := 37) (t := 81) (p := 47) (by decide +kernel) (by decide +kernel) rfl c2 ?_
      refine fs_aload_n (k := 0) (p := 48) (by decide +kernel) rfl rfl ?_
      refine fs_gfr (idx := 9) (ci := 10) (j := 0) (p := 51) (by decide +kernel) rfl (by decide +kernel) fo_215 (fr_a215_0) ?_
      refine fs_iconst (n := 5) (p := 52) (by decide +kernel) rfl kc_5 ?_
      refine fs_bipush (n := 9) (p := 54) (by decide +kernel) rfl kb_9 ?_
      refine fs_iload_n (k := 1) (p := 55) (by decide +kernel) rfl rfl ?_
      refine fs_imul (p := 56) (by decide +kernel) rfl ?_
      refine fs_iadd (p := 57) (by decide +kernel) rfl ?_
      refine fs_iload_n (k := 3) (p := 58) (by decide +kernel) rfl rfl ?_
      refine fs_iadd (p := 59) (by decide +kernel) rfl ?_
      refine fs_aload_n (k := 0) (p := 60) (by decide +kernel) rfl rfl ?_
      refine fs_gfr (idx := 23) (ci := 10) (j := 10) (p := 63) (by decide +kernel) rfl (by decide +kernel) fo_215 (fr_a215_10) ?_
      refine fs_iload_n (k := 3) (p := 64) (by decide +kernel) rfl rfl ?_
      obtain ⟨v3, w4, h⟩ := fx_bd h
      refine fs_iaload (p := 65) (by decide +kernel) rfl w4 ?_
      obtain ⟨t6, w7, h⟩ := fx_bd h
      refine fs_iastore (p := 66) (by decide +kernel) rfl w7 ?_
      refine fs_iload_n (k := 2) (p := 67) (by decide +kernel) rfl rfl ?_
      refine fs_aload_n (k := 0) (p := 68) (by decide +kernel) rfl rfl ?_
      refine fs_gfr (idx := 23) (ci := 10) (j := 10) (p := 71) (by decide +kernel) rfl (by decide +kernel) fo_215 (fr_a215_10) ?_
      refine fs_iload_n (k := 3) (p := 72) (by decide +kernel) rfl rfl ?_
      obtain ⟨v9, w10, h⟩ := fx_bd h
      refine fs_iaload (p := 73) (by decide +kernel) rfl w10 ?_
      refine fs_iadd (p := 74) (by decide +kernel) rfl ?_
      refine fs_istore_n (k := 2) (p := 75) (M := 4) (al' := [some (.ref 215), some (.int x1), some (.int (x2 + v9)), some (.int x3)]) (by decide +kernel) rfl mx_149 rfl rfl ?_
      refine fs_iinc (k := 3) (n := 1) (p := 78) (M := 4) (al' := [some (.ref 215), some (.int x1), some (.int (x2 + v9)), some (.int (x3 + (1 : Int32)))]) (by decide +kernel) rfl kc_1 mx_149 rfl rfl rfl ?_
      refine fs_goto (off := -37) (p := 41) (by decide +kernel) (by decide +kernel) ?_
      exact ih _ _ _ _ _ h
def fm_149 (x1 : Int32) (σ : fx_S) : Option (Int32 × fx_S) :=
  (fm_148 x1 σ).bind fun q22 =>
  if ¬ (fx_b q22.1) = 0 then (
    (fm_147 q22.2).bind fun q25 =>
    (fm_138 (fx_w1 q25 215 4 (0 : Int32))).bind fun q27 =>
    if ¬ (fx_b q27.1) = 0 then (
      (fm_132 q27.2).bind fun q30 =>
      fm_149_41 100000 x1 (0 : Int32) (0 : Int32) q30) else (
      some (((-2 : Int32) - (q27.2.1 215 6)), q27.2))) else (
    some ((-1 : Int32), q22.2))
theorem fe_149 {d : Nat} (hd : 4 ≤ d) {x1 : Int32} {σ : fx_S} {q : Int32 × fx_S} (h : fm_149 x1 σ = some q) : fx_E none 149 d 0 [some (.ref 215), some (.int x1), none, none] [] σ (some (.int q.1)) q.2 := by
  unfold fm_149 at h
  refine fs_iload_n (k := 1) (p := 1) (by decide +kernel) rfl rfl ?_
  obtain ⟨q22, w21, h⟩ := fx_bd h
  refine fs_callS (idx := 190) (mj := 148) (na := 1) (mx := 1) (p := 4) (args := [.int x1]) (rest := []) (al2 := [some (.int x1)]) (by decide +kernel) rfl (by decide +kernel) rfl rfl rfl rfl rfl rfl rfl (by omega) (fun d' hd' => fe_148 (by omega) w21) rfl ?_
  by_cases c23 : ¬ (fx_b q22.1) = 0
  · rw [if_pos c23] at h
    refine fs_if_ne_t (off := 5) (t := 9) (by decide +kernel) (by decide +kernel) c23 ?_
    refine fs_aload_n (k := 0) (p := 10) (by decide +kernel) rfl rfl ?_
    obtain ⟨q25, w24, h⟩ := fx_bd h
    refine fs_callV (idx := 193) (mj := 147) (ci := 10) (na := 0) (mx := 2) (p := 13) (args := [.ref 215]) (rest := []) (al2 := [some (.ref 215), none]) (by decide +kernel) rfl (by decide +kernel) fo_215 rfl rfl rfl rfl rfl rfl rfl (by omega) (fun d' hd' => fe_147 (by omega) w24) rfl ?_
    refine fs_aload_n (k := 0) (p := 14) (by decide +kernel) rfl rfl ?_
    refine fs_iconst (n := 0) (p := 15) (by decide +kernel) rfl kc_0 ?_
    refine fs_pfi (idx := 107) (ci := 10) (j := 4) (p := 18) (by decide +kernel) rfl (by decide +kernel) (by decide +kernel) fo_215 (fx_oki _ (by decide +kernel)) ?_
    refine fs_aload_n (k := 0) (p := 19) (by decide +kernel) rfl rfl ?_
    obtain ⟨q27, w26, h⟩ := fx_bd h
    refine fs_callV (idx := 120) (mj := 138) (ci := 10) (na := 0) (mx := 1) (p := 22) (args := [.ref 215]) (rest := []) (al2 := [some (.ref 215)]) (by decide +kernel) rfl (by decide +kernel) fo_215 rfl rfl rfl rfl rfl rfl rfl (by omega) (fun d' hd' => fe_138 (by omega) w26) rfl ?_
    by_cases c28 : ¬ (fx_b q27.1) = 0
    · rw [if_pos c28] at h
      refine fs_if_ne_t (off := 11) (t := 33) (by decide +kernel) (by decide +kernel) c28 ?_
      refine fs_aload_n (k := 0) (p := 34) (by decide +kernel) rfl rfl ?_
      obtain ⟨q30, w29, h⟩ := fx_bd h
      refine fs_callV (idx := 170) (mj := 132) (ci := 10) (na := 0) (mx := 2) (p := 37) (args := [.ref 215]) (rest := []) (al2 := [some (.ref 215), none]) (by decide +kernel) rfl (by decide +kernel) fo_215 rfl rfl rfl rfl rfl rfl rfl (by omega) (fun d' hd' => fe_132 (by omega) w29) rfl ?_
      refine fs_iconst (n := 0) (p := 38) (by decide +kernel) rfl kc_0 ?_
      refine fs_istore_n (k := 2) (p := 39) (M := 4) (al' := [some (.ref 215), some (.int x1), some (.int (0 : Int32)), none]) (by decide +kernel) rfl mx_149 rfl rfl ?_
      refine fs_iconst (n := 0) (p := 40) (by decide +kernel) rfl kc_0 ?_
      refine fs_istore_n (k := 3) (p := 41) (M := 4) (al' := [some (.ref 215), some (.int x1), some (.int (0 : Int32)), some (.int (0 : Int32))]) (by decide +kernel) rfl mx_149 rfl rfl ?_
      exact fe_149_41 hd 100000 _ _ _ _ _ h
    · rw [if_neg c28] at h
      refine fs_if_ne_f (off := 11) (t := 33) (p := 25) (by decide +kernel) (by decide +kernel) rfl c28 ?_
      refine fs_bipush (n := -2) (p := 27) (by decide +kernel) rfl kb_m2 ?_
      refine fs_aload_n (k := 0) (p := 28) (by decide +kernel) rfl rfl ?_
      refine fs_gfi (idx := 117) (ci := 10) (j := 6) (p := 31) (by decide +kernel) rfl (by decide +kernel) fo_215 ?_
      refine fs_isub (p := 32) (by decide +kernel) rfl ?_
      have h := Option.some.inj h
      subst h
      exact fs_iret (by decide +kernel) rt_149
  · rw [if_neg c23] at h
    refine fs_if_ne_f (off := 5) (t := 9) (p := 7) (by decide +kernel) (by decide +kernel) rfl c23 ?_
    refine fs_iconst (n := -1) (p := 8) (by decide +kernel) rfl kc_m1 ?_
    have h := Option.some.inj h
    subst h
    exact fs_iret (by decide +kernel) rt_149

/-! ZoneSharesModel.isWhole()Z -/
theorem mx_150 : iv_mx 150 = 1 := by decide +kernel
theorem rt_150 : iv_rt 150 = some .boolean := by decide +kernel
def fm_150 (σ : fx_S) : Option (Bool × fx_S) :=
  (fx_ld σ 216 (2 : Int32)).bind fun v5 =>
  if ¬ v5 = (7 : Int32) then (
    some (false, σ)) else (
    some (true, σ))
theorem fe_150 {d : Nat} (hd : 0 ≤ d) {σ : fx_S} {q : Bool × fx_S} (h : fm_150 σ = some q) : fx_E none 150 d 0 [some (.ref 215)] [] σ (some (.int (fx_b q.1))) q.2 := by
  unfold fm_150 at h
  refine fs_aload_n (k := 0) (p := 1) (by decide +kernel) rfl rfl ?_
  refine fs_gfr (idx := 9) (ci := 10) (j := 0) (p := 4) (by decide +kernel) rfl (by decide +kernel) fo_215 (fr_a215_0) ?_
  refine fs_iconst (n := 2) (p := 5) (by decide +kernel) rfl kc_2 ?_
  obtain ⟨v5, w6, h⟩ := fx_bd h
  refine fs_iaload (p := 6) (by decide +kernel) rfl w6 ?_
  refine fs_bipush (n := 7) (p := 8) (by decide +kernel) rfl kb_7 ?_
  by_cases c8 : ¬ v5 = (7 : Int32)
  · rw [if_pos c8] at h
    refine fs_icmp_ne_t (off := 7) (t := 15) (by decide +kernel) (by decide +kernel) c8 ?_
    refine fs_iconst (n := 0) (p := 16) (by decide +kernel) rfl kc_0 ?_
    have h := Option.some.inj h
    subst h
    exact fs_zret (b := false) (by decide +kernel) rt_150
  · rw [if_neg c8] at h
    refine fs_icmp_ne_f (off := 7) (t := 15) (p := 11) (by decide +kernel) (by decide +kernel) rfl c8 ?_
    refine fs_iconst (n := 1) (p := 12) (by decide +kernel) rfl kc_1 ?_
    refine fs_goto (off := 4) (p := 16) (by decide +kernel) (by decide +kernel) ?_
    have h := Option.some.inj h
    subst h
    exact fs_zret (b := true) (by decide +kernel) rt_150

/-! ZoneSharesModel.cellMany()I -/
theorem mx_151 : iv_mx 151 = 1 := by decide +kernel
theorem rt_151 : iv_rt 151 = some .int := by decide +kernel
def fm_151 (σ : fx_S) : Option (Int32 × fx_S) :=
  (fx_ld σ 216 (0 : Int32)).bind fun v5 =>
  (fx_ld σ 216 (1 : Int32)).bind fun v7 =>
  some ((v5 * v7), σ)
theorem fe_151 {d : Nat} (hd : 0 ≤ d) {σ : fx_S} {q : Int32 × fx_S} (h : fm_151 σ = some q) : fx_E none 151 d 0 [some (.ref 215)] [] σ (some (.int q.1)) q.2 := by
  unfold fm_151 at h
  refine fs_aload_n (k := 0) (p := 1) (by decide +kernel) rfl rfl ?_
  refine fs_gfr (idx := 9) (ci := 10) (j := 0) (p := 4) (by decide +kernel) rfl (by decide +kernel) fo_215 (fr_a215_0) ?_
  refine fs_iconst (n := 0) (p := 5) (by decide +kernel) rfl kc_0 ?_
  obtain ⟨v5, w6, h⟩ := fx_bd h
  refine fs_iaload (p := 6) (by decide +kernel) rfl w6 ?_
  refine fs_aload_n (k := 0) (p := 7) (by decide +kernel) rfl rfl ?_
  refine fs_gfr (idx := 9) (ci := 10) (j := 0) (p := 10) (by decide +kernel) rfl (by decide +kernel) fo_215 (fr_a215_0) ?_
  refine fs_iconst (n := 1) (p := 11) (by decide +kernel) rfl kc_1 ?_
  obtain ⟨v7, w8, h⟩ := fx_bd h
  refine fs_iaload (p := 12) (by decide +kernel) rfl w8 ?_
  refine fs_imul (p := 13) (by decide +kernel) rfl ?_
  have h := Option.some.inj h
  subst h
  exact fs_iret (by decide +kernel) rt_151

/-! ZoneSharesModel.codeAt(II)I -/
theorem mx_152 : iv_mx 152 = 3 := by decide +kernel
theorem rt_152 : iv_rt 152 = some .int := by decide +kernel
def fm_152 (x1 : Int32) (x2 : Int32) (σ : fx_S) : Option (Int32 × fx_S) :=
  (fx_ld σ 216 (1 : Int32)).bind fun v11 =>
  if ¬ v11 = 0 then (
  (fx_ld σ 216 (1 : Int32)).bind fun v15 =>
  if ¬ v15 = 0 then (
  (fx_ld σ 216 ((((52 : Int32) + ((96 : Int32) * x1)) + ((12 : Int32) * (x2 / v11))) + (x2 - x2 / v15 * v15))).bind fun v18 =>
  some (v18, σ)) else none) else none
theorem fe_152 {d : Nat} (hd : 0 ≤ d) {x1 : Int32} {x2 : Int32} {σ : fx_S} {q : Int32 × fx_S} (h : fm_152 x1 x2 σ = some q) : fx_E none 152 d 0 [some (.ref 215), some (.int x1), some (.int x2)] [] σ (some (.int q.1)) q.2 := by
  unfold fm_152 at h
  refine fs_aload_n (k := 0) (p := 1) (by decide +kernel) rfl rfl ?_
  refine fs_gfr (idx := 9) (ci := 10) (j := 0) (p := 4) (by decide +kernel) rfl (by decide +kernel) fo_215 (fr_a215_0) ?_
  refine fs_bipush (n := 52) (p := 6) (by decide +kernel) rfl kb_52 ?_
  refine fs_bipush (n := 96) (p := 8) (by decide +kernel) rfl kb_96 ?_
  refine fs_iload_n (k := 1) (p := 9) (by decide +kernel) rfl rfl ?_
  refine fs_imul (p := 10) (by decide +kernel) rfl ?_
  refine fs_iadd (p := 11) (by decide +kernel) rfl ?_
  refine fs_bipush (n := 12) (p := 13) (by decide +kernel) rfl kb_12 ?_
  refine fs_iload_n (k := 2) (p := 14) (by decide +kernel) rfl rfl ?_
  refine fs_aload_n (k := 0) (p := 15) (by decide +kernel) rfl rfl ?_
  refine fs_gfr (idx := 9) (ci := 10) (j := 0) (p := 18) (by decide +kernel) rfl (by decide +kernel) fo_215 (fr_a215_0) ?_
  refine fs_iconst (n := 1) (p := 19) (by decide +kernel) rfl kc_1 ?_
  obtain ⟨v11, w12, h⟩ := fx_bd h
  refine fs_iaload (p := 20) (by decide +kernel) rfl w12 ?_
  obtain ⟨z14, h⟩ := fx_gd h
  refine fs_idiv (p := 21) (by decide +kernel) rfl z14 ?_
  refine fs_imul (p := 22) (by decide +kernel) rfl ?_
  refine fs_iadd (p := 23) (by decide +kernel) rfl ?_
  refine fs_iload_n (k := 2) (p := 24) (by decide +kernel) rfl rfl ?_
  refine fs_aload_n (k := 0) (p := 25) (by decide +kernel) rfl rfl ?_
  refine fs_gfr (idx := 9) (ci := 10) (j := 0) (p := 28) (by decide +kernel) rfl (by decide +kernel) fo_215 (fr_a215_0) ?_
  refine fs_iconst (n := 1) (p := 29) (by decide +kernel) rfl kc_1 ?_
  obtain ⟨v15, w16, h⟩ := fx_bd h
  refine fs_iaload (p := 30) (by decide +kernel) rfl w16 ?_
  obtain ⟨z17, h⟩ := fx_gd h
  refine fs_irem (p := 31) (by decide +kernel) rfl z17 ?_
  refine fs_iadd (p := 32) (by decide +kernel) rfl ?_
  obtain ⟨v18, w19, h⟩ := fx_bd h
  refine fs_iaload (p := 33) (by decide +kernel) rfl w19 ?_
  have h := Option.some.inj h
  subst h
  exact fs_iret (by decide +kernel) rt_152

/-! ZoneSharesModel.hasZone(II)Z -/
theorem mx_153 : iv_mx 153 = 4 := by decide +kernel
theorem rt_153 : iv_rt 153 = some .boolean := by decide +kernel
def fm_153_2 : Nat → Int32 → Int32 → Int32 → fx_S → Option (Bool × fx_S)
  | 0, _, _, _, _ => none
  | n + 1, x1, x2, x3, σ =>
    (fm_151 σ).bind fun q2 =>
    if q2.1 ≤ x3 then (
      some (false, q2.2)) else (
      (fm_144 x1 q2.2).bind fun q7 =>
      if (fx_b q7.1) = 0 then (
        some (false, q7.2)) else (
        (fm_152 x1 x3 q7.2).bind fun q10 =>
        if ¬ q10.1 = x2 then (
          fm_153_2 n x1 x2 (x3 + (1 : Int32)) q10.2) else (
          some (true, q10.2))))
theorem fe_153_2 {d : Nat} (hd : 1 ≤ d) : ∀ (n : Nat) (x1 : Int32) (x2 : Int32) (x3 : Int32) (σ : fx_S) (q : Bool × fx_S), fm_153_2 n x1 x2 x3 σ = some q → fx_E none 153 d 2 [some (.ref 215), some (.int x1), some (.int x2), some (.int x3)] [] σ (some (.int (fx_b q.1))) q.2 := by
  intro n
  induction n with
  | zero =>
    intro x1 x2 x3 σ q  h
    rw [fm_153_2] at h
    exact fx_no h
  | succ n ih =>
    intro x1 x2 x3 σ q  h
    rw [fm_153_2] at h
    refine fs_iload_n (k := 3) (p := 3) (by decide +kernel) rfl rfl ?_
    refine fs_aload_n (k := 0) (p := 4) (by decide +kernel) rfl rfl ?_
    obtain ⟨q2, w1, h⟩ := fx_bd h
    refine fs_callV (idx := 196) (mj := 151) (ci := 10) (na := 0) (mx := 1) (p := 7) (args := [.ref 215]) (rest := [.int x3]) (al2 := [some (.ref 215)]) (by decide +kernel) rfl (by decide +kernel) fo_215 rfl rfl rfl rfl rfl rfl rfl (by omega) (fun d' hd' => fe_151 (by omega) w1) rfl ?_
    by_cases c5 : q2.1 ≤ x3
    · rw [if_pos c5] at h
      refine fs_icmp_ge_t (off := 29) (t := 36) (by decide +kernel) (by decide +kernel) c5 ?_
      refine fs_iconst (n := 0) (p := 37) (by decide +kernel) rfl kc_0 ?_
      have h := Option.some.inj h
      subst h
      exact fs_zret (b := false) (by decide +kernel) rt_153
    · rw [if_neg c5] at h
      refine fs_icmp_ge_f (off := 29) (t := 36) (p := 10) (by decide +kernel) (by decide +kernel) rfl c5 ?_
      refine fs_aload_n (k := 0) (p := 11) (by decide +kernel) rfl rfl ?_
      refine fs_iload_n (k := 1) (p := 12) (by decide +kernel) rfl rfl ?_
      obtain ⟨q7, w6, h⟩ := fx_bd h
      refine fs_callV (idx := 163) (mj := 144) (ci := 10) (na := 1) (mx := 2) (p := 15) (args := [.ref 215, .int x1]) (rest := []) (al2 := [some (.ref 215), some (.int x1)]) (by decide +kernel) rfl (by decide +kernel) fo_215 rfl rfl rfl rfl rfl rfl rfl (by omega) (fun d' hd' => fe_144 (by omega) w6) rfl ?_
      by_cases c8 : (fx_b q7.1) = 0
      · rw [if_pos c8] at h
        refine fs_if_eq_t (off := 21) (t := 36) (by decide +kernel) (by decide +kernel) c8 ?_
        refine fs_iconst (n := 0) (p := 37) (by decide +kernel) rfl kc_0 ?_
        have h := Option.some.inj h
        subst h
        exact fs_zret (b := false) (by decide +kernel) rt_153
      · rw [if_neg c8] at h
        refine fs_if_eq_f (off := 21) (t := 36) (p := 18) (by decide +kernel) (by decide +kernel) rfl c8 ?_
        refine fs_aload_n (k := 0) (p := 19) (by decide +kernel) rfl rfl ?_
        refine fs_iload_n (k := 1) (p := 20) (by decide +kernel) rfl rfl ?_
        refine fs_iload_n (k := 3) (p := 21) (by decide +kernel) rfl rfl ?_
        obtain ⟨q10, w9, h⟩ := fx_bd h
        refine fs_callV (idx := 199) (mj := 152) (ci := 10) (na := 2) (mx := 3) (p := 24) (args := [.ref 215, .int x1, .int x3]) (rest := []) (al2 := [some (.ref 215), some (.int x1), some (.int x3)]) (by decide +kernel) rfl (by decide +kernel) fo_215 rfl rfl rfl rfl rfl rfl rfl (by omega) (fun d' hd' => fe_152 (by omega) w9) rfl ?_
        refine fs_iload_n (k := 2) (p := 25) (by decide +kernel) rfl rfl ?_
        by_cases c13 : ¬ q10.1 = x2
        · rw [if_pos c13] at h
          refine fs_icmp_ne_t (off := 5) (t := 30) (by decide +kernel) (by decide +kernel) c13 ?_
          refine fs_iinc (k := 3) (n := 1) (p := 33) (M := 4) (al' := [some (.ref 215), some (.int x1), some (.int x2), some (.int (x3 + (1 : Int32)))]) (by decide +kernel) rfl kc_1 mx_153 rfl rfl rfl ?_
          refine fs_goto (off := -31) (p := 2) (by decide +kernel) (by decide +kernel) ?_
          exact ih _ _ _ _ _ h
        · rw [if_neg c13] at h
          refine fs_icmp_ne_f (off := 5) (t := 30) (p := 28) (by decide +kernel) (by decide +kernel) rfl c13 ?_
          refine fs_iconst (n := 1) (p := 29) (by decide +kernel) rfl kc_1 ?_
          have h := Option.some.inj h
          subst h
          exact fs_zret (b := true) (by decide +kernel) rt_153
def fm_153 (x1 : Int32) (x2 : Int32) (σ : fx_S) : Option (Bool × fx_S) :=
  fm_153_2 100000 x1 x2 (0 : Int32) σ
theorem fe_153 {d : Nat} (hd : 1 ≤ d) {x1 : Int32} {x2 : Int32} {σ : fx_S} {q : Bool × fx_S} (h : fm_153 x1 x2 σ = some q) : fx_E none 153 d 0 [some (.ref 215), some (.int x1), some (.int x2), none] [] σ (some (.int (fx_b q.1))) q.2 := by
  unfold fm_153 at h
  refine fs_iconst (n := 0) (p := 1) (by decide +kernel) rfl kc_0 ?_
  refine fs_istore_n (k := 3) (p := 2) (M := 4) (al' := [some (.ref 215), some (.int x1), some (.int x2), some (.int (0 : Int32))]) (by decide +kernel) rfl mx_153 rfl rfl ?_
  exact fe_153_2 hd 100000 _ _ _ _ _ h

/-! ZoneSharesModel.codeMany(II)I -/
theorem mx_154 : iv_mx 154 = 5 := by decide +kernel
theorem rt_154 : iv_rt 154 = some .int := by decide +kernel
def fm_154_5 : Nat → Int32 → Int32 → Int32 → Int32 → fx_S → Option (Int32 × fx_S)
  | 0, _, _, _, _, _ => none
  | n + 1, x1, x2, x3, x4, σ =>
    if x2 ≤ x4 then (
      some (x3, σ)) else (
      (fm_153 x1 x4 σ).bind fun q5 =>
      (fm_131 (fx_b q5.1) q5.2).bind fun q7 =>
      fm_154_5 n x1 x2 (x3 + q7.1) (x4 + (1 : Int32)) q7.2)
theorem fe_154_5 {d : Nat} (hd : 2 ≤ d) : ∀ (n : Nat) (x1 : Int32) (x2 : Int32) (x3 : Int32) (x4 : Int32) (σ : fx_S) (q : Int32 × fx_S), fm_154_5 n x1 x2 x3 x4 σ = some q → fx_E none 154 d 5 [some (.ref 215), some (.int x1), some (.int x2), some (.int x3), some (.int x4)] [] σ (some (.int q.1)) q.2 := by
  intro n
  induction n with
  | zero =>
    intro x1 x2 x3 x4 σ q  h
    rw [fm_154_5] at h
    exact fx_no h
  | succ n ih =>
    intro x1 x2 x3 x4 σ q  h
    rw [fm_154_5] at h
    refine fs_iload (k := 4) (p := 7) (by decide +kernel) rfl rfl ?_
    refine fs_iload_n (k := 2) (p := 8) (by decide +kernel) rfl rfl ?_
    by_cases c3 : x2 ≤ x4
    · rw [if_pos c3] at h
      refine fs_icmp_ge_t (off := 22) (t := 30) (by decide +kernel) (by decide +kernel) c3 ?_
      refine fs_iload_n (k := 3) (p := 31) (by decide +kernel) rfl rfl ?_
      have h := Option.some.inj h
      subst h
      exact fs_iret (by decide +kernel) rt_154
    · rw [if_neg c3] at h
      refine fs_icmp_ge_f (off := 22) (t := 30) (p := 11) (by decide +kernel) (by decide +kernel) rfl c3 ?_
      refine fs_iload_n (k := 3) (p := 12) (by decide +kernel) rfl rfl ?_
      refine fs_aload_n (k := 0) (p := 13) (by decide +kernel) rfl rfl ?_
      refine fs_iload_n (k := 1) (p := 14) (by decide +kernel) rfl rfl ?_
      refine fs_iload (k := 4) (p := 16) (by decide +kernel) rfl rfl ?_
      obtain ⟨q5, w4, h⟩ := fx_bd h
      refine fs_callV (idx := 202) (mj := 153) (ci := 10) (na := 2) (mx := 4) (p := 19) (args := [.ref 215, .int x1, .int x4]) (rest := [.int x3]) (al2 := [some (.ref 215), some (.int x1), some (.int x4), none]) (by decide +kernel) rfl (by decide +kernel) fo_215 rfl rfl rfl rfl rfl rfl rfl (by omega) (fun d' hd' => fe_153 (by omega) w4) rfl ?_
      obtain ⟨q7, w6, h⟩ := fx_bd h
      refine fs_callS (idx := 186) (mj := 131) (na := 1) (mx := 1) (p := 22) (args := [.int (fx_b q5.1)]) (rest := [.int x3]) (al2 := [some (.int (fx_b q5.1))]) (by decide +kernel) rfl (by decide +kernel) rfl rfl rfl rfl rfl rfl rfl (by omega) (fun d' hd' => fe_131 (by omega) w6) rfl ?_
      refine fs_iadd (p := 23) (by decide +kernel) rfl ?_
      refine fs_istore_n (k := 3) (p := 24) (M := 5) (al' := [some (.ref 215), some (.int x1), some (.int x2), some (.int (x3 + q7.1)), some (.int x4)]) (by decide +kernel) rfl mx_154 rfl rfl ?_
      refine fs_iinc (k := 4) (n := 1) (p := 27) (M := 5) (al' := [some (.ref 215), some (.int x1), some (.int x2), some (.int (x3 + q7.1)), some (.int (x4 + (1 : Int32)))]) (by decide +kernel) rfl kc_1 mx_154 rfl rfl rfl ?_
      refine fs_goto (off := -22) (p := 5) (by decide +kernel) (by decide +kernel) ?_
      exact ih _ _ _ _ _ _ h
def fm_154 (x1 : Int32) (x2 : Int32) (σ : fx_S) : Option (Int32 × fx_S) :=
  fm_154_5 100000 x1 x2 (0 : Int32) (0 : Int32) σ
theorem fe_154 {d : Nat} (hd : 2 ≤ d) {x1 : Int32} {x2 : Int32} {σ : fx_S} {q : Int32 × fx_S} (h : fm_154 x1 x2 σ = some q) : fx_E none 154 d 0 [some (.ref 215), some (.int x1), some (.int x2), none, none] [] σ (some (.int q.1)) q.2 := by
  unfold fm_154 at h
  refine fs_iconst (n := 0) (p := 1) (by decide +kernel) rfl kc_0 ?_
  refine fs_istore_n (k := 3) (p := 2) (M := 5) (al' := [some (.ref 215), some (.int x1), some (.int x2), some (.int (0 : Int32)), none]) (by decide +kernel) rfl mx_154 rfl rfl ?_
  refine fs_iconst (n := 0) (p := 3) (by decide +kernel) rfl kc_0 ?_
  refine fs_istore (k := 4) (p := 5) (M := 5) (al' := [some (.ref 215), some (.int x1), some (.int x2), some (.int (0 : Int32)), some (.int (0 : Int32))]) (by decide +kernel) rfl mx_154 rfl rfl ?_
  exact fe_154_5 hd 100000 _ _ _ _ _ _ h

/-! ZoneSharesModel.countOf(II)I -/
theorem mx_155 : iv_mx 155 = 3 := by decide +kernel
theorem rt_155 : iv_rt 155 = some .int := by decide +kernel
def fm_155 (x1 : Int32) (x2 : Int32) (σ : fx_S) : Option (Int32 × fx_S) :=
  (fx_ld σ 216 (((5 : Int32) + ((9 : Int32) * x1)) + x2)).bind fun v4 =>
  some (v4, σ)
theorem fe_155 {d : Nat} (hd : 0 ≤ d) {x1 : Int32} {x2 : Int32} {σ : fx_S} {q : Int32 × fx_S} (h : fm_155 x1 x2 σ = some q) : fx_E none 155 d 0 [some (.ref 215), some (.int x1), some (.int x2)] [] σ (some (.int q.1)) q.2 := by
  unfold fm_155 at h
  refine fs_aload_n (k := 0) (p := 1) (by decide +kernel) rfl rfl ?_
  refine fs_gfr (idx := 9) (ci := 10) (j := 0) (p := 4) (by decide +kernel) rfl (by decide +kernel) fo_215 (fr_a215_0) ?_
  refine fs_iconst (n := 5) (p := 5) (by decide +kernel) rfl kc_5 ?_
  refine fs_bipush (n := 9) (p := 7) (by decide +kernel) rfl kb_9 ?_
  refine fs_iload_n (k := 1) (p := 8) (by decide +kernel) rfl rfl ?_
  refine fs_imul (p := 9) (by decide +kernel) rfl ?_
  refine fs_iadd (p := 10) (by decide +kernel) rfl ?_
  refine fs_iload_n (k := 2) (p := 11) (by decide +kernel) rfl rfl ?_
  refine fs_iadd (p := 12) (by decide +kernel) rfl ?_
  obtain ⟨v4, w5, h⟩ := fx_bd h
  refine fs_iaload (p := 13) (by decide +kernel) rfl w5 ?_
  have h := Option.some.inj h
  subst h
  exact fs_iret (by decide +kernel) rt_155

/-! ZoneSharesModel.weightAt(II)I -/
theorem mx_156 : iv_mx 156 = 3 := by decide +kernel
theorem rt_156 : iv_rt 156 = some .int := by decide +kernel
def fm_156 (x1 : Int32) (x2 : Int32) (σ : fx_S) : Option (Int32 × fx_S) :=
  (fm_152 (2 : Int32) x2 σ).bind fun q7 =>
  (fx_ld q7.2 216 (((32 : Int32) + ((4 : Int32) * x1)) + q7.1)).bind fun v8 =>
  some (v8, q7.2)
theorem fe_156 {d : Nat} (hd : 1 ≤ d) {x1 : Int32} {x2 : Int32} {σ : fx_S} {q : Int32 × fx_S} (h : fm_156 x1 x2 σ = some q) : fx_E none 156 d 0 [some (.ref 215), some (.int x1), some (.int x2)] [] σ (some (.int q.1)) q.2 := by
  unfold fm_156 at h
  refine fs_aload_n (k := 0) (p := 1) (by decide +kernel) rfl rfl ?_
  refine fs_gfr (idx := 9) (ci := 10) (j := 0) (p := 4) (by decide +kernel) rfl (by decide +kernel) fo_215 (fr_a215_0) ?_
  refine fs_bipush (n := 32) (p := 6) (by decide +kernel) rfl kb_32 ?_
  refine fs_iconst (n := 4) (p := 7) (by decide +kernel) rfl kc_4 ?_
  refine fs_iload_n (k := 1) (p := 8) (by decide +kernel) rfl rfl ?_
  refine fs_imul (p := 9) (by decide +kernel) rfl ?_
  refine fs_iadd (p := 10) (by decide +kernel) rfl ?_
  refine fs_aload_n (k := 0) (p := 11) (by decide +kernel) rfl rfl ?_
  refine fs_iconst (n := 2) (p := 12) (by decide +kernel) rfl kc_2 ?_
  refine fs_iload_n (k := 2) (p := 13) (by decide +kernel) rfl rfl ?_
  obtain ⟨q7, w6, h⟩ := fx_bd h
  refine fs_callV (idx := 199) (mj := 152) (ci := 10) (na := 2) (mx := 3) (p := 16) (args := [.ref 215, .int (2 : Int32), .int x2]) (rest := [.int ((32 : Int32) + ((4 : Int32) * x1)), .ref 216]) (al2 := [some (.ref 215), some (.int (2 : Int32)), some (.int x2)]) (by decide +kernel) rfl (by decide +kernel) fo_215 rfl rfl rfl rfl rfl rfl rfl (by omega) (fun d' hd' => fe_152 (by omega) w6) rfl ?_
  refine fs_iadd (p := 17) (by decide +kernel) rfl ?_
  obtain ⟨v8, w9, h⟩ := fx_bd h
  refine fs_iaload (p := 18) (by decide +kernel) rfl w9 ?_
  have h := Option.some.inj h
  subst h
  exact fs_iret (by decide +kernel) rt_156

/-! ZoneSharesModel.sumOf(IIIZ)I -/
theorem mx_157 : iv_mx 157 = 8 := by decide +kernel
theorem rt_157 : iv_rt 157 = some .int := by decide +kernel
def fm_157_81 (k_6 : Int32 → Int32 → Int32 → Int32 → Int32 → Int32 → fx_S → Option (Int32 × fx_S)) (x1 : Int32) (x2 : Int32) (x3 : Int32) (x4 : Int32) (x6 : Int32) (s0 : Int32) (s1 : Int32) (σ : fx_S) : Option (Int32 × fx_S) :=
  k_6 x1 x2 x3 x4 (s0 + s1) (x6 + (1 : Int32)) σ
theorem fe_157_81 {d : Nat} (hd : 2 ≤ d) {k_6 : Int32 → Int32 → Int32 → Int32 → Int32 → Int32 → fx_S → Option (Int32 × fx_S)} (hk_6 : ∀ (x1 : Int32) (x2 : Int32) (x3 : Int32) (x4 : Int32) (x5 : Int32) (x6 : Int32) (o7 : Option Value) (σ : fx_S) (q : Int32 × fx_S), k_6 x1 x2 x3 x4 x5 x6 σ = some q → fx_E none 157 d 6 [some (.ref 215), some (.int x1), some (.int x2), some (.int x3), some (.int x4), some (.int x5), some (.int x6), o7] [] σ (some (.int q.1)) q.2) (x1 : Int32) (x2 : Int32) (x3 : Int32) (x4 : Int32) (x6 : Int32) (s0 : Int32) (s1 : Int32) (o5 : Option Value) (o7 : Option Value) (σ : fx_S) (q : Int32 × fx_S) (h : fm_157_81 k_6  x1 x2 x3 x4 x6 s0 s1 σ = some q) : fx_E none 157 d 81 [some (.ref 215), some (.int x1), some (.int x2), some (.int x3), some (.int x4), o5, some (.int x6), o7] [.int s1, .int s0] σ (some (.int q.1)) q.2 := by
  unfold fm_157_81 at h
  refine fs_iadd (p := 82) (by decide +kernel) rfl ?_
  refine fs_istore (k := 5) (p := 84) (M := 8) (al' := [some (.ref 215), some (.int x1), some (.int x2), some (.int x3), some (.int x4), some (.int (s0 + s1)), some (.int x6), o7]) (by decide +kernel) rfl mx_157 rfl rfl ?_
  refine fs_iinc (k := 6) (n := 1) (p := 87) (M := 8) (al' := [some (.ref 215), some (.int x1), some (.int x2), some (.int x3), some (.int x4), some (.int (s0 + s1)), some (.int (x6 + (1 : Int32))), o7]) (by decide +kernel) rfl kc_1 mx_157 rfl rfl rfl ?_
  refine fs_goto (off := -81) (p := 6) (by decide +kernel) (by decide +kernel) ?_
  exact hk_6 _ _ _ _ _ _ _ _ _ h
def fm_157_52 (k_6 : Int32 → Int32 → Int32 → Int32 → Int32 → Int32 → fx_S → Option (Int32 × fx_S)) (x1 : Int32) (x2 : Int32) (x3 : Int32) (x4 : Int32) (x5 : Int32) (x6 : Int32) (s0 : Int32) (σ : fx_S) : Option (Int32 × fx_S) :=
  if ¬ s0 = 0 then (
    if x4 = 0 then (
      (fm_156 x1 x6 σ).bind fun q6 =>
      fm_157_81 k_6 x1 x2 x3 x4 x6 x5 q6.1 q6.2) else (
      fm_157_81 k_6 x1 x2 x3 x4 x6 x5 (1 : Int32) σ)) else (
    fm_157_81 k_6 x1 x2 x3 x4 x6 x5 (0 : Int32) σ)
theorem fe_157_52 {d : Nat} (hd : 2 ≤ d) {k_6 : Int32 → Int32 → Int32 → Int32 → Int32 → Int32 → fx_S → Option (Int32 × fx_S)} (hk_6 : ∀ (x1 : Int32) (x2 : Int32) (x3 : Int32) (x4 : Int32) (x5 : Int32) (x6 : Int32) (o7 : Option Value) (σ : fx_S) (q : Int32 × fx_S), k_6 x1 x2 x3 x4 x5 x6 σ = some q → fx_E none 157 d 6 [some (.ref 215), some (.int x1), some (.int x2), some (.int x3), some (.int x4), some (.int x5), some (.int x6), o7] [] σ (some (.int q.1)) q.2) (x1 : Int32) (x2 : Int32) (x3 : Int32) (x4 : Int32) (x5 : Int32) (x6 : Int32) (s0 : Int32) (o7 : Option Value) (σ : fx_S) (q : Int32 × fx_S) (h : fm_157_52 k_6  x1 x2 x3 x4 x5 x6 s0 σ = some q) : fx_E none 157 d 52 [some (.ref 215), some (.int x1), some (.int x2), some (.int x3), some (.int x4), some (.int x5), some (.int x6), o7] [.int s0] σ (some (.int q.1)) q.2 := by
  unfold fm_157_52 at h
  refine fs_istore (k := 7) (p := 54) (M := 8) (al' := [some (.ref 215), some (.int x1), some (.int x2), some (.int x3), some (.int x4), some (.int x5), some (.int x6), some (.int s0)]) (by decide +kernel) rfl mx_157 rfl rfl ?_
  refine fs_iload (k := 5) (p := 56) (by decide +kernel) rfl rfl ?_
  refine fs_iload (k := 7) (p := 58) (by decide +kernel) rfl rfl ?_
  by_cases c2 : ¬ s0 = 0
  · rw [if_pos c2] at h
    refine fs_if_ne_t (off := 7) (t := 65) (by decide +kernel) (by decide +kernel) c2 ?_
    refine fs_iload (k := 4) (p := 67) (by decide +kernel) rfl rfl ?_
    by_cases c4 : x4 = 0
    · rw [if_pos c4] at h
      refine fs_if_eq_t (off := 7) (t := 74) (by decide +kernel) (by decide +kernel) c4 ?_
      refine fs_aload_n (k := 0) (p := 75) (by decide +kernel) rfl rfl ?_
      refine fs_iload_n (k := 1) (p := 76) (by decide +kernel) rfl rfl ?_
      refine fs_iload (k := 6) (p := 78) (by decide +kernel) rfl rfl ?_
      obtain ⟨q6, w5, h⟩ := fx_bd h
      refine fs_callV (idx := 205) (mj := 156) (ci := 10) (na := 2) (mx := 3) (p := 81) (args := [.ref 215, .int x1, .int x6]) (rest := [.int x5]) (al2 := [some (.ref 215), some (.int x1), some (.int x6)]) (by decide +kernel) rfl (by decide +kernel) fo_215 rfl rfl rfl rfl rfl rfl rfl (by omega) (fun d' hd' => fe_156 (by omega) w5) rfl ?_
      exact fe_157_81 hd hk_6 _ _ _ _ _ _ _ _ _ _ _ h
    · rw [if_neg c4] at h
      refine fs_if_eq_f (off := 7) (t := 74) (p := 70) (by decide +kernel) (by decide +kernel) rfl c4 ?_
      refine fs_iconst (n := 1) (p := 71) (by decide +kernel) rfl kc_1 ?_
      refine fs_goto (off := 10) (p := 81) (by decide +kernel) (by decide +kernel) ?_
      exact fe_157_81 hd hk_6 _ _ _ _ _ _ _ _ _ _ _ h
  · rw [if_neg c2] at h
    refine fs_if_ne_f (off := 7) (t := 65) (p := 61) (by decide +kernel) (by decide +kernel) rfl c2 ?_
    refine fs_iconst (n := 0) (p := 62) (by decide +kernel) rfl kc_0 ?_
    refine fs_goto (off := 19) (p := 81) (by decide +kernel) (by decide +kernel) ?_
    exact fe_157_81 hd hk_6 _ _ _ _ _ _ _ _ _ _ _ h
def fm_157_31 (k_6 : Int32 → Int32 → Int32 → Int32 → Int32 → Int32 → fx_S → Option (Int32 × fx_S)) (x1 : Int32) (x2 : Int32) (x3 : Int32) (x4 : Int32) (x5 : Int32) (x6 : Int32) (σ : fx_S) : Option (Int32 × fx_S) :=
  if x3 = (-1 : Int32) then (
    fm_157_52 k_6 x1 x2 x3 x4 x5 x6 (1 : Int32) σ) else (
    (fm_152 (1 : Int32) x6 σ).bind fun q4 =>
    if ¬ q4.1 = x3 then (
      fm_157_52 k_6 x1 x2 x3 x4 x5 x6 (0 : Int32) q4.2) else (
      fm_157_52 k_6 x1 x2 x3 x4 x5 x6 (1 : Int32) q4.2))
theorem fe_157_31 {d : Nat} (hd : 2 ≤ d) {k_6 : Int32 → Int32 → Int32 → Int32 → Int32 → Int32 → fx_S → Option (Int32 × fx_S)} (hk_6 : ∀ (x1 : Int32) (x2 : Int32) (x3 : Int32) (x4 : Int32) (x5 : Int32) (x6 : Int32) (o7 : Option Value) (σ : fx_S) (q : Int32 × fx_S), k_6 x1 x2 x3 x4 x5 x6 σ = some q → fx_E none 157 d 6 [some (.ref 215), some (.int x1), some (.int x2), some (.int x3), some (.int x4), some (.int x5), some (.int x6), o7] [] σ (some (.int q.1)) q.2) (x1 : Int32) (x2 : Int32) (x3 : Int32) (x4 : Int32) (x5 : Int32) (x6 : Int32) (o7 : Option Value) (σ : fx_S) (q : Int32 × fx_S) (h : fm_157_31 k_6  x1 x2 x3 x4 x5 x6 σ = some q) : fx_E none 157 d 31 [some (.ref 215), some (.int x1), some (.int x2), some (.int x3), some (.int x4), some (.int x5), some (.int x6), o7] [] σ (some (.int q.1)) q.2 := by
  unfold fm_157_31 at h
  refine fs_iload_n (k := 3) (p := 32) (by decide +kernel) rfl rfl ?_
  refine fs_iconst (n := -1) (p := 33) (by decide +kernel) rfl kc_m1 ?_
  by_cases c2 : x3 = (-1 : Int32)
  · rw [if_pos c2] at h
    refine fs_icmp_eq_t (off := 14) (t := 47) (by decide +kernel) (by decide +kernel) c2 ?_
    refine fs_iconst (n := 1) (p := 48) (by decide +kernel) rfl kc_1 ?_
    refine fs_goto (off := 4) (p := 52) (by decide +kernel) (by decide +kernel) ?_
    exact fe_157_52 hd hk_6 _ _ _ _ _ _ _ _ _ _ h
  · rw [if_neg c2] at h
    refine fs_icmp_eq_f (off := 14) (t := 47) (p := 36) (by decide +kernel) (by decide +kernel) rfl c2 ?_
    refine fs_aload_n (k := 0) (p := 37) (by decide +kernel) rfl rfl ?_
    refine fs_iconst (n := 1) (p := 38) (by decide +kernel) rfl kc_1 ?_
    refine fs_iload (k := 6) (p := 40) (by decide +kernel) rfl rfl ?_
    obtain ⟨q4, w3, h⟩ := fx_bd h
    refine fs_callV (idx := 199) (mj := 152) (ci := 10) (na := 2) (mx := 3) (p := 43) (args := [.ref 215, .int (1 : Int32), .int x6]) (rest := []) (al2 := [some (.ref 215), some (.int (1 : Int32)), some (.int x6)]) (by decide +kernel) rfl (by decide +kernel) fo_215 rfl rfl rfl rfl rfl rfl rfl (by omega) (fun d' hd' => fe_152 (by omega) w3) rfl ?_
    refine fs_iload_n (k := 3) (p := 44) (by decide +kernel) rfl rfl ?_
    by_cases c6 : ¬ q4.1 = x3
    · rw [if_pos c6] at h
      refine fs_icmp_ne_t (off := 7) (t := 51) (by decide +kernel) (by decide +kernel) c6 ?_
      refine fs_iconst (n := 0) (p := 52) (by decide +kernel) rfl kc_0 ?_
      exact fe_157_52 hd hk_6 _ _ _ _ _ _ _ _ _ _ h
    · rw [if_neg c6] at h
      refine fs_icmp_ne_f (off := 7) (t := 51) (p := 47) (by decide +kernel) (by decide +kernel) rfl c6 ?_
      refine fs_iconst (n := 1) (p := 48) (by decide +kernel) rfl kc_1 ?_
      refine fs_goto (off := 4) (p := 52) (by decide +kernel) (by decide +kernel) ?_
      exact fe_157_52 hd hk_6 _ _ _ _ _ _ _ _ _ _ h
def fm_157_6 : Nat → Int32 → Int32 → Int32 → Int32 → Int32 → Int32 → fx_S → Option (Int32 × fx_S)
  | 0, _, _, _, _, _, _, _ => none
  | n + 1, x1, x2, x3, x4, x5, x6, σ =>
    (fm_151 σ).bind fun q2 =>
    if q2.1 ≤ x6 then (
      some (x5, q2.2)) else (
      if x2 = (-1 : Int32) then (
        fm_157_31 (fm_157_6 n) x1 x2 x3 x4 x5 x6 q2.2) else (
        (fm_152 (0 : Int32) x6 q2.2).bind fun q9 =>
        if ¬ q9.1 = x2 then (
          fm_157_52 (fm_157_6 n) x1 x2 x3 x4 x5 x6 (0 : Int32) q9.2) else (
          fm_157_31 (fm_157_6 n) x1 x2 x3 x4 x5 x6 q9.2)))
theorem fe_157_6 {d : Nat} (hd : 2 ≤ d) : ∀ (n : Nat) (x1 : Int32) (x2 : Int32) (x3 : Int32) (x4 : Int32) (x5 : Int32) (x6 : Int32) (o7 : Option Value) (σ : fx_S) (q : Int32 × fx_S), fm_157_6 n x1 x2 x3 x4 x5 x6 σ = some q → fx_E none 157 d 6 [some (.ref 215), some (.int x1), some (.int x2), some (.int x3), some (.int x4), some (.int x5), some (.int x6), o7] [] σ (some (.int q.1)) q.2 := by
  intro n
  induction n with
  | zero =>
    intro x1 x2 x3 x4 x5 x6 o7 σ q  h
    rw [fm_157_6] at h
    exact fx_no h
  | succ n ih =>
    intro x1 x2 x3 x4 x5 x6 o7 σ q  h
    rw [fm_157_6] at h
    refine fs_iload (k := 6) (p := 8) (by decide +kernel) rfl rfl ?_
    refine fs_aload_n (k := 0) (p := 9) (by decide +kernel) rfl rfl ?_
    obtain ⟨q2, w1, h⟩ := fx_bd h
    refine fs_callV (idx := 196) (mj := 151) (ci := 10) (na := 0) (mx := 1) (p := 12) (args := [.ref 215]) (rest := [.int x6]) (al2 := [some (.ref 215)]) (by decide +kernel) rfl (by decide +kernel) fo_215 rfl rfl rfl rfl rfl rfl rfl (by omega) (fun d' hd' => fe_151 (by omega) w1) rfl ?_
    by_cases c5 : q2.1 ≤ x6
    · rw [if_pos c5] at h
      refine fs_icmp_ge_t (off := 78) (t := 90) (by decide +kernel) (by decide +kernel) c5 ?_
      refine fs_iload (k := 5) (p := 92) (by decide +kernel) rfl rfl ?_
      have h := Option.some.inj h
      subst h
      exact fs_iret (by decide +kernel) rt_157
    · rw [if_neg c5] at h
      refine fs_icmp_ge_f (off := 78) (t := 90) (p := 15) (by decide +kernel) (by decide +kernel) rfl c5 ?_
      refine fs_iload_n (k := 2) (p := 16) (by decide +kernel) rfl rfl ?_
      refine fs_iconst (n := -1) (p := 17) (by decide +kernel) rfl kc_m1 ?_
      by_cases c7 : x2 = (-1 : Int32)
      · rw [if_pos c7] at h
        refine fs_icmp_eq_t (off := 14) (t := 31) (by decide +kernel) (by decide +kernel) c7 ?_
        exact fe_157_31 hd ih _ _ _ _ _ _ _ _ _ h
      · rw [if_neg c7] at h
        refine fs_icmp_eq_f (off := 14) (t := 31) (p := 20) (by decide +kernel) (by decide +kernel) rfl c7 ?_
        refine fs_aload_n (k := 0) (p := 21) (by decide +kernel) rfl rfl ?_
        refine fs_iconst (n := 0) (p := 22) (by decide +kernel) rfl kc_0 ?_
        refine fs_iload (k := 6) (p := 24) (by decide +kernel) rfl rfl ?_
        obtain ⟨q9, w8, h⟩ := fx_bd h
        refine fs_callV (idx := 199) (mj := 152) (ci := 10) (na := 2) (mx := 3) (p := 27) (args := [.ref 215, .int (0 : Int32), .int x6]) (rest := []) (al2 := [some (.ref 215), some (.int (0 : Int32)), some (.int x6)]) (by decide +kernel) rfl (by decide +kernel) fo_215 rfl rfl rfl rfl rfl rfl rfl (by omega) (fun d' hd' => fe_152 (by omega) w8) rfl ?_
        refine fs_iload_n (k := 2) (p := 28) (by decide +kernel) rfl rfl ?_
        by_cases c11 : ¬ q9.1 = x2
        · rw [if_pos c11] at h
          refine fs_icmp_ne_t (off := 23) (t := 51) (by decide +kernel) (by decide +kernel) c11 ?_
          refine fs_iconst (n := 0) (p := 52) (by decide +kernel) rfl kc_0 ?_
          exact fe_157_52 hd ih _ _ _ _ _ _ _ _ _ _ h
        · rw [if_neg c11] at h
          refine fs_icmp_ne_f (off := 23) (t := 51) (p := 31) (by decide +kernel) (by decide +kernel) rfl c11 ?_
          exact fe_157_31 hd ih _ _ _ _ _ _ _ _ _ h
def fm_157 (x1 : Int32) (x2 : Int32) (x3 : Int32) (x4 : Int32) (σ : fx_S) : Option (Int32 × fx_S) :=
  fm_157_6 100000 x1 x2 x3 x4 (0 : Int32) (0 : Int32) σ
theorem fe_157 {d : Nat} (hd : 2 ≤ d) {x1 : Int32} {x2 : Int32} {x3 : Int32} {x4 : Int32} {σ : fx_S} {q : Int32 × fx_S} (h : fm_157 x1 x2 x3 x4 σ = some q) : fx_E none 157 d 0 [some (.ref 215), some (.int x1), some (.int x2), some (.int x3), some (.int x4), none, none, none] [] σ (some (.int q.1)) q.2 := by
  unfold fm_157 at h
  refine fs_iconst (n := 0) (p := 1) (by decide +kernel) rfl kc_0 ?_
  refine fs_istore (k := 5) (p := 3) (M := 8) (al' := [some (.ref 215), some (.int x1), some (.int x2), some (.int x3), some (.int x4), some (.int (0 : Int32)), none, none]) (by decide +kernel) rfl mx_157 rfl rfl ?_
  refine fs_iconst (n := 0) (p := 4) (by decide +kernel) rfl kc_0 ?_
  refine fs_istore (k := 6) (p := 6) (M := 8) (al' := [some (.ref 215), some (.int x1), some (.int x2), some (.int x3), some (.int x4), some (.int (0 : Int32)), some (.int (0 : Int32)), none]) (by decide +kernel) rfl mx_157 rfl rfl ?_
  exact fe_157_6 hd 100000 _ _ _ _ _ _ _ _ _ h

/-! ZoneSharesModel.oldCells(I)I -/
theorem mx_158 : iv_mx 158 = 4 := by decide +kernel
theorem rt_158 : iv_rt 158 = some .int := by decide +kernel
def fm_158_28 (k_4 : Int32 → Int32 → Int32 → fx_S → Option (Int32 × fx_S)) (x1 : Int32) (x3 : Int32) (s0 : Int32) (s1 : Int32) (σ : fx_S) : Option (Int32 × fx_S) :=
  (fm_131 s1 σ).bind fun q2 =>
  k_4 x1 (s0 + q2.1) (x3 + (1 : Int32)) q2.2
theorem fe_158_28 {d : Nat} (hd : 1 ≤ d) {k_4 : Int32 → Int32 → Int32 → fx_S → Option (Int32 × fx_S)} (hk_4 : ∀ (x1 : Int32) (x2 : Int32) (x3 : Int32) (σ : fx_S) (q : Int32 × fx_S), k_4 x1 x2 x3 σ = some q → fx_E none 158 d 4 [some (.ref 215), some (.int x1), some (.int x2), some (.int x3)] [] σ (some (.int q.1)) q.2) (x1 : Int32) (x3 : Int32) (s0 : Int32) (s1 : Int32) (o2 : Option Value) (σ : fx_S) (q : Int32 × fx_S) (h : fm_158_28 k_4  x1 x3 s0 s1 σ = some q) : fx_E none 158 d 28 [some (.ref 215), some (.int x1), o2, some (.int x3)] [.int s1, .int s0] σ (some (.int q.1)) q.2 := by
  unfold fm_158_28 at h
  obtain ⟨q2, w1, h⟩ := fx_bd h
  refine fs_callS (idx := 186) (mj := 131) (na := 1) (mx := 1) (p := 31) (args := [.int s1]) (rest := [.int s0]) (al2 := [some (.int s1)]) (by decide +kernel) rfl (by decide +kernel) rfl rfl rfl rfl rfl rfl rfl (by omega) (fun d' hd' => fe_131 (by omega) w1) rfl ?_
  refine fs_iadd (p := 32) (by decide +kernel) rfl ?_
  refine fs_istore_n (k := 2) (p := 33) (M := 4) (al' := [some (.ref 215), some (.int x1), some (.int (s0 + q2.1)), some (.int x3)]) (by decide +kernel) rfl mx_158 rfl rfl ?_
  refine fs_iinc (k := 3) (n := 1) (p := 36) (M := 4) (al' := [some (.ref 215), some (.int x1), some (.int (s0 + q2.1)), some (.int (x3 + (1 : Int32)))]) (by decide +kernel) rfl kc_1 mx_158 rfl rfl rfl ?_
  refine fs_goto (off := -32) (p := 4) (by decide +kernel) (by decide +kernel) ?_
  exact hk_4 _ _ _ _ _ h
def fm_158_4 : Nat → Int32 → Int32 → Int32 → fx_S → Option (Int32 × fx_S)
  | 0, _, _, _, _ => none
  | n + 1, x1, x2, x3, σ =>
    (fm_151 σ).bind fun q2 =>
    if q2.1 ≤ x3 then (
      some (x2, q2.2)) else (
      (fm_152 (0 : Int32) x3 q2.2).bind fun q7 =>
      if ¬ q7.1 = x1 then (
        fm_158_28 (fm_158_4 n) x1 x3 x2 (0 : Int32) q7.2) else (
        fm_158_28 (fm_158_4 n) x1 x3 x2 (1 : Int32) q7.2))
theorem fe_158_4 {d : Nat} (hd : 1 ≤ d) : ∀ (n : Nat) (x1 : Int32) (x2 : Int32) (x3 : Int32) (σ : fx_S) (q : Int32 × fx_S), fm_158_4 n x1 x2 x3 σ = some q → fx_E none 158 d 4 [some (.ref 215), some (.int x1), some (.int x2), some (.int x3)] [] σ (some (.int q.1)) q.2 := by
  intro n
  induction n with
  | zero =>
    intro x1 x2 x3 σ q  h
    rw [fm_158_4] at h
    exact fx_no h
  | succ n ih =>
    intro x1 x2 x3 σ q  h
    rw [fm_158_4] at h
    refine fs_iload_n (k := 3) (p := 5) (by decide +kernel) rfl rfl ?_
    refine fs_aload_n (k := 0) (p := 6) (by decide +kernel) rfl rfl ?_
    obtain ⟨q2, w1, h⟩ := fx_bd h
    refine fs_callV (idx := 196) (mj := 151) (ci := 10) (na := 0) (mx := 1) (p := 9) (args := [.ref 215]) (rest := [.int x3]) (al2 := [some (.ref 215)]) (by decide +kernel) rfl (by decide +kernel) fo_215 rfl rfl rfl rfl rfl rfl rfl (by omega) (fun d' hd' => fe_151 (by omega) w1) rfl ?_
    by_cases c5 : q2.1 ≤ x3
    · rw [if_pos c5] at h
      refine fs_icmp_ge_t (off := 30) (t := 39) (by decide +kernel) (by decide +kernel) c5 ?_
      refine fs_iload_n (k := 2) (p := 40) (by decide +kernel) rfl rfl ?_
      have h := Option.some.inj h
      subst h
      exact fs_iret (by decide +kernel) rt_158
    · rw [if_neg c5] at h
      refine fs_icmp_ge_f (off := 30) (t := 39) (p := 12) (by decide +kernel) (by decide +kernel) rfl c5 ?_
      refine fs_iload_n (k := 2) (p := 13) (by decide +kernel) rfl rfl ?_
      refine fs_aload_n (k := 0) (p := 14) (by decide +kernel) rfl rfl ?_
      refine fs_iconst (n := 0) (p := 15) (by decide +kernel) rfl kc_0 ?_
      refine fs_iload_n (k := 3) (p := 16) (by decide +kernel) rfl rfl ?_
      obtain ⟨q7, w6, h⟩ := fx_bd h
      refine fs_callV (idx := 199) (mj := 152) (ci := 10) (na := 2) (mx := 3) (p := 19) (args := [.ref 215, .int (0 : Int32), .int x3]) (rest := [.int x2]) (al2 := [some (.ref 215), some (.int (0 : Int32)), some (.int x3)]) (by decide +kernel) rfl (by decide +kernel) fo_215 rfl rfl rfl rfl rfl rfl rfl (by omega) (fun d' hd' => fe_152 (by omega) w6) rfl ?_
      refine fs_iload_n (k := 1) (p := 20) (by decide +kernel) rfl rfl ?_
      by_cases c10 : ¬ q7.1 = x1
      · rw [if_pos c10] at h
        refine fs_icmp_ne_t (off := 7) (t := 27) (by decide +kernel) (by decide +kernel) c10 ?_
        refine fs_iconst (n := 0) (p := 28) (by decide +kernel) rfl kc_0 ?_
        exact fe_158_28 hd ih _ _ _ _ _ _ _ h
      · rw [if_neg c10] at h
        refine fs_icmp_ne_f (off := 7) (t := 27) (p := 23) (by decide +kernel) (by decide +kernel) rfl c10 ?_
        refine fs_iconst (n := 1) (p := 24) (by decide +kernel) rfl kc_1 ?_
        refine fs_goto (off := 4) (p := 28) (by decide +kernel) (by decide +kernel) ?_
        exact fe_158_28 hd ih _ _ _ _ _ _ _ h
def fm_158 (x1 : Int32) (σ : fx_S) : Option (Int32 × fx_S) :=
  fm_158_4 100000 x1 (0 : Int32) (0 : Int32) σ
theorem fe_158 {d : Nat} (hd : 1 ≤ d) {x1 : Int32} {σ : fx_S} {q : Int32 × fx_S} (h : fm_158 x1 σ = some q) : fx_E none 158 d 0 [some (.ref 215), some (.int x1), none, none] [] σ (some (.int q.1)) q.2 := by
  unfold fm_158 at h
  refine fs_iconst (n := 0) (p := 1) (by decide +kernel) rfl kc_0 ?_
  refine fs_istore_n (k := 2) (p := 2) (M := 4) (al' := [some (.ref 215), some (.int x1), some (.int (0 : Int32)), none]) (by decide +kernel) rfl mx_158 rfl rfl ?_
  refine fs_iconst (n := 0) (p := 3) (by decide +kernel) rfl kc_0 ?_
  refine fs_istore_n (k := 3) (p := 4) (M := 4) (al' := [some (.ref 215), some (.int x1), some (.int (0 : Int32)), some (.int (0 : Int32))]) (by decide +kernel) rfl mx_158 rfl rfl ?_
  exact fe_158_4 hd 100000 _ _ _ _ _ h

/-! ZoneSharesModel.begins(II)V -/
theorem mx_159 : iv_mx 159 = 4 := by decide +kernel
theorem rt_159 : iv_rt 159 = none := by decide +kernel
def fm_159_12 : Nat → Int32 → fx_S → Option (fx_S)
  | 0, _, _ => none
  | n + 1, x3, σ =>
    if (72 : Int32) ≤ x3 then (
      some σ) else (
      (fx_st σ 222 x3 (0 : Int32)).bind fun t3 =>
      (fx_stl t3 224 x3 (0 : Int64)).bind fun t6 =>
      (fx_stl t6 225 x3 (0 : Int64)).bind fun t8 =>
      fm_159_12 n (x3 + (1 : Int32)) t8)
theorem fe_159_12 {d : Nat} (hd : 0 ≤ d) : ∀ (n : Nat) (x3 : Int32) (o1 : Option Value) (o2 : Option Value) (σ : fx_S) (q : fx_S), fm_159_12 n x3 σ = some q → fx_E none 159 d 12 [some (.ref 215), o1, o2, some (.int x3)] [] σ none q := by
  intro n
  induction n with
  | zero =>
    intro x3 o1 o2 σ q  h
    rw [fm_159_12] at h
    exact fx_no h
  | succ n ih =>
    intro x3 o1 o2 σ q  h
    rw [fm_159_12] at h
    refine fs_iload_n (k := 3) (p := 13) (by decide +kernel) rfl rfl ?_
    refine fs_bipush (n := 72) (p := 15) (by decide +kernel) rfl kb_72 ?_
    by_cases c2 : (72 : Int32) ≤ x3
    · rw [if_pos c2] at h
      refine fs_icmp_ge_t (off := 30) (t := 45) (by decide +kernel) (by decide +kernel) c2 ?_
      have h := Option.some.inj h
      subst h
      exact fs_ret (by decide +kernel) rt_159
    · rw [if_neg c2] at h
      refine fs_icmp_ge_f (off := 30) (t := 45) (p := 18) (by decide +kernel) (by decide +kernel) rfl c2 ?_
      refine fs_aload_n (k := 0) (p := 19) (by decide +kernel) rfl rfl ?_
      refine fs_gfr (idx := 30) (ci := 10) (j := 13) (p := 22) (by decide +kernel) rfl (by decide +kernel) fo_215 (fr_a215_13) ?_
      refine fs_iload_n (k := 3) (p := 23) (by decide +kernel) rfl rfl ?_
      refine fs_iconst (n := 0) (p := 24) (by decide +kernel) rfl kc_0 ?_
      obtain ⟨t3, w4, h⟩ := fx_bd h
      refine fs_iastore (p := 25) (by decide +kernel) rfl w4 ?_
      refine fs_aload_n (k := 0) (p := 26) (by decide +kernel) rfl rfl ?_
      refine fs_gfr (idx := 36) (ci := 10) (j := 15) (p := 29) (by decide +kernel) rfl (by decide +kernel) fo_215 (fr_a215_15) ?_
      refine fs_iload_n (k := 3) (p := 30) (by decide +kernel) rfl rfl ?_
      refine fs_lconst (n := 0) (p := 31) (by decide +kernel) rfl kl_0 ?_
      obtain ⟨t6, w7, h⟩ := fx_bd h
      refine fs_lastore (p := 32) (by decide +kernel) rfl w7 ?_
      refine fs_aload_n (k := 0) (p := 33) (by decide +kernel) rfl rfl ?_
      refine fs_gfr (idx := 39) (ci := 10) (j := 16) (p := 36) (by decide +kernel) rfl (by decide +kernel) fo_215 (fr_a215_16) ?_
      refine fs_iload_n (k := 3) (p := 37) (by decide +kernel) rfl rfl ?_
      refine fs_lconst (n := 0) (p := 38) (by decide +kernel) rfl kl_0 ?_
      obtain ⟨t8, w9, h⟩ := fx_bd h
      refine fs_lastore (p := 39) (by decide +kernel) rfl w9 ?_
      refine fs_iinc (k := 3) (n := 1) (p := 42) (M := 4) (al' := [some (.ref 215), o1, (fx_kl o2), some (.int (x3 + (1 : Int32)))]) (by decide +kernel) rfl kc_1 mx_159 rfl rfl rfl ?_
      refine fs_goto (off := -30) (p := 12) (by decide +kernel) (by decide +kernel) ?_
      exact ih _ _ _ _ _ h
def fm_159 (x1 : Int32) (x2 : Int32) (σ : fx_S) : Option (fx_S) :=
  fm_159_12 100000 (0 : Int32) (fx_w1 (fx_w1 σ 215 17 x1) 215 18 x2)
theorem fe_159 {d : Nat} (hd : 0 ≤ d) {x1 : Int32} {x2 : Int32} {σ : fx_S} {q : fx_S} (h : fm_159 x1 x2 σ = some q) : fx_E none 159 d 0 [some (.ref 215), some (.int x1), some (.int x2), none] [] σ none q := by
  unfold fm_159 at h
  refine fs_aload_n (k := 0) (p := 1) (by decide +kernel) rfl rfl ?_
  refine fs_iload_n (k := 1) (p := 2) (by decide +kernel) rfl rfl ?_
  refine fs_pfi (idx := 208) (ci := 10) (j := 17) (p := 5) (by decide +kernel) rfl (by decide +kernel) (by decide +kernel) fo_215 (fx_oki _ (by decide +kernel)) ?_
  refine fs_aload_n (k := 0) (p := 6) (by decide +kernel) rfl rfl ?_
  refine fs_iload_n (k := 2) (p := 7) (by decide +kernel) rfl rfl ?_
  refine fs_pfi (idx := 211) (ci := 10) (j := 18) (p := 10) (by decide +kernel) rfl (by decide +kernel) (by decide +kernel) fo_215 (fx_oki _ (by decide +kernel)) ?_
  refine fs_iconst (n := 0) (p := 11) (by decide +kernel) rfl kc_0 ?_
  refine fs_istore_n (k := 3) (p := 12) (M := 4) (al' := [some (.ref 215), some (.int x1), some (.int x2), some (.int (0 : Int32))]) (by decide +kernel) rfl mx_159 rfl rfl ?_
  exact fe_159_12 hd 100000 _ _ _ _ _ h

/-! ZoneSharesModel.at(II)I -/
theorem mx_160 : iv_mx 160 = 2 := by decide +kernel
theorem rt_160 : iv_rt 160 = some .int := by decide +kernel
def fm_160 (x0 : Int32) (x1 : Int32) (σ : fx_S) : Option (Int32 × fx_S) :=
  some ((((9 : Int32) * x0) + x1), σ)
theorem fe_160 {d : Nat} (hd : 0 ≤ d) {x0 : Int32} {x1 : Int32} {σ : fx_S} {q : Int32 × fx_S} (h : fm_160 x0 x1 σ = some q) : fx_E none 160 d 0 [some (.int x0), some (.int x1)] [] σ (some (.int q.1)) q.2 := by
  unfold fm_160 at h
  refine fs_bipush (n := 9) (p := 2) (by decide +kernel) rfl kb_9 ?_
  refine fs_iload_n (k := 0) (p := 3) (by decide +kernel) rfl rfl ?_
  refine fs_imul (p := 4) (by decide +kernel) rfl ?_
  refine fs_iload_n (k := 1) (p := 5) (by decide +kernel) rfl rfl ?_
  refine fs_iadd (p := 6) (by decide +kernel) rfl ?_
  have h := Option.some.inj h
  subst h
  exact fs_iret (by decide +kernel) rt_160

/-! ZoneSharesModel.wholeOf(I)I -/
theorem mx_161 : iv_mx 161 = 4 := by decide +kernel
theorem rt_161 : iv_rt 161 = some .int := by decide +kernel
def fm_161_4 : Nat → Int32 → Int32 → Int32 → fx_S → Option (Int32 × fx_S)
  | 0, _, _, _, _ => none
  | n + 1, x1, x2, x3, σ =>
    if (σ.1 215 18) ≤ x3 then (
      (fx_st σ 223 x1 x2).bind fun t4 =>
      some (x2, t4)) else (
      (fm_160 x1 x3 σ).bind fun q8 =>
      (fx_ld q8.2 222 q8.1).bind fun v9 =>
      fm_161_4 n x1 (x2 + v9) (x3 + (1 : Int32)) q8.2)
theorem fe_161_4 {d : Nat} (hd : 1 ≤ d) : ∀ (n : Nat) (x1 : Int32) (x2 : Int32) (x3 : Int32) (σ : fx_S) (q : Int32 × fx_S), fm_161_4 n x1 x2 x3 σ = some q → fx_E none 161 d 4 [some (.ref 215), some (.int x1), some (.int x2), some (.int x3)] [] σ (some (.int q.1)) q.2 := by
  intro n
  induction n with
  | zero =>
    intro x1 x2 x3 σ q  h
    rw [fm_161_4] at h
    exact fx_no h
  | succ n ih =>
    intro x1 x2 x3 σ q  h
    rw [fm_161_4] at h
    refine fs_iload_n (k := 3) (p := 5) (by decide +kernel) rfl rfl ?_
    refine fs_aload_n (k := 0) (p := 6) (by decide +kernel) rfl rfl ?_
    refine fs_gfi (idx := 211) (ci := 10) (j := 18) (p := 9) (by decide +kernel) rfl (by decide +kernel) fo_215 ?_
    by_cases c3 : (σ.1 215 18) ≤ x3
    · rw [if_pos c3] at h
      refine fs_icmp_ge_t (off := 22) (t := 31) (by decide +kernel) (by decide +kernel) c3 ?_
      refine fs_aload_n (k := 0) (p := 32) (by decide +kernel) rfl rfl ?_
      refine fs_gfr (idx := 33) (ci := 10) (j := 14) (p := 35) (by decide +kernel) rfl (by decide +kernel) fo_215 (fr_a215_14) ?_
      refine fs_iload_n (k := 1) (p := 36) (by decide +kernel) rfl rfl ?_
      refine fs_iload_n (k := 2) (p := 37) (by decide +kernel) rfl rfl ?_
      obtain ⟨t4, w5, h⟩ := fx_bd h
      refine fs_iastore (p := 38) (by decide +kernel) rfl w5 ?_
      refine fs_iload_n (k := 2) (p := 39) (by decide +kernel) rfl rfl ?_
      have h := Option.some.inj h
      subst h
      exact fs_iret (by decide +kernel) rt_161
    · rw [if_neg c3] at h
      refine fs_icmp_ge_f (off := 22) (t := 31) (p := 12) (by decide +kernel) (by decide +kernel) rfl c3 ?_
      refine fs_iload_n (k := 2) (p := 13) (by decide +kernel) rfl rfl ?_
      refine fs_aload_n (k := 0) (p := 14) (by decide +kernel) rfl rfl ?_
      refine fs_gfr (idx := 30) (ci := 10) (j := 13) (p := 17) (by decide +kernel) rfl (by decide +kernel) fo_215 (fr_a215_13) ?_
      refine fs_iload_n (k := 1) (p := 18) (by decide +kernel) rfl rfl ?_
      refine fs_iload_n (k := 3) (p := 19) (by decide +kernel) rfl rfl ?_
      obtain ⟨q8, w7, h⟩ := fx_bd h
      refine fs_callS (idx := 214) (mj := 160) (na := 2) (mx := 2) (p := 22) (args := [.int x1, .int x3]) (rest := [.ref 222, .int x2]) (al2 := [some (.int x1), some (.int x3)]) (by decide +kernel) rfl (by decide +kernel) rfl rfl rfl rfl rfl rfl rfl (by omega) (fun d' hd' => fe_160 (by omega) w7) rfl ?_
      obtain ⟨v9, w10, h⟩ := fx_bd h
      refine fs_iaload (p := 23) (by decide +kernel) rfl w10 ?_
      refine fs_iadd (p := 24) (by decide +kernel) rfl ?_
      refine fs_istore_n (k := 2) (p := 25) (M := 4) (al' := [some (.ref 215), some (.int x1), some (.int (x2 + v9)), some (.int x3)]) (by decide +kernel) rfl mx_161 rfl rfl ?_
      refine fs_iinc (k := 3) (n := 1) (p := 28) (M := 4) (al' := [some (.ref 215), some (.int x1), some (.int (x2 + v9)), some (.int (x3 + (1 : Int32)))]) (by decide +kernel) rfl kc_1 mx_161 rfl rfl rfl ?_
      refine fs_goto (off := -24) (p := 4) (by decide +kernel) (by decide +kernel) ?_
      exact ih _ _ _ _ _ h
def fm_161 (x1 : Int32) (σ : fx_S) : Option (Int32 × fx_S) :=
  fm_161_4 100000 x1 (0 : Int32) (0 : Int32) σ
theorem fe_161 {d : Nat} (hd : 1 ≤ d) {x1 : Int32} {σ : fx_S} {q : Int32 × fx_S} (h : fm_161 x1 σ = some q) : fx_E none 161 d 0 [some (.ref 215), some (.int x1), none, none] [] σ (some (.int q.1)) q.2 := by
  unfold fm_161 at h
  refine fs_iconst (n := 0) (p := 1) (by decide +kernel) rfl kc_0 ?_
  refine fs_istore_n (k := 2) (p := 2) (M := 4) (al' := [some (.ref 215), some (.int x1), some (.int (0 : Int32)), none]) (by decide +kernel) rfl mx_161 rfl rfl ?_
  refine fs_iconst (n := 0) (p := 3) (by decide +kernel) rfl kc_0 ?_
  refine fs_istore_n (k := 3) (p := 4) (M := 4) (al' := [some (.ref 215), some (.int x1), some (.int (0 : Int32)), some (.int (0 : Int32))]) (by decide +kernel) rfl mx_161 rfl rfl ?_
  exact fe_161_4 hd 100000 _ _ _ _ _ h

/-! ZoneSharesModel.cutsOff(I)J -/
theorem mx_162 : iv_mx 162 = 7 := by decide +kernel
theorem rt_162 : iv_rt 162 = some .long := by decide +kernel
def fm_162_107 (k_10 : Int32 → Int64 → Int32 → fx_S → Option (Int64 × fx_S)) (x1 : Int32) (x2 : Int64) (x4 : Int32) (s1 : Int32) (s2 : Int64) (σ : fx_S) : Option (Int64 × fx_S) :=
  (fx_stl σ 225 s1 s2).bind fun t1 =>
  (fm_160 x1 x4 t1).bind fun q5 =>
  (fx_ldl q5.2 224 q5.1).bind fun v6 =>
  k_10 x1 (x2 - v6) (x4 + (1 : Int32)) q5.2
theorem fe_162_107 {d : Nat} (hd : 1 ≤ d) {k_10 : Int32 → Int64 → Int32 → fx_S → Option (Int64 × fx_S)} (hk_10 : ∀ (x1 : Int32) (x2 : Int64) (x4 : Int32) (o5 : Option Value) (σ : fx_S) (q : Int64 × fx_S), k_10 x1 x2 x4 σ = some q → fx_E none 162 d 10 [some (.ref 215), some (.int x1), some (.long x2), none, some (.int x4), o5, none] [] σ (some (.long q.1)) q.2) (x1 : Int32) (x2 : Int64) (x4 : Int32) (s1 : Int32) (s2 : Int64) (o5 : Option Value) (σ : fx_S) (q : Int64 × fx_S) (h : fm_162_107 k_10  x1 x2 x4 s1 s2 σ = some q) : fx_E none 162 d 107 [some (.ref 215), some (.int x1), some (.long x2), none, some (.int x4), o5, none] [.long s2, .int s1, .ref 225] σ (some (.long q.1)) q.2 := by
  unfold fm_162_107 at h
  obtain ⟨t1, w2, h⟩ := fx_bd h
  refine fs_lastore (p := 108) (by decide +kernel) rfl w2 ?_
  refine fs_lload_n (k := 2) (p := 109) (by decide +kernel) rfl rfl ?_
  refine fs_aload_n (k := 0) (p := 110) (by decide +kernel) rfl rfl ?_
  refine fs_gfr (idx := 36) (ci := 10) (j := 15) (p := 113) (by decide +kernel) rfl (by decide +kernel) fo_215 (fr_a215_15) ?_
  refine fs_iload_n (k := 1) (p := 114) (by decide +kernel) rfl rfl ?_
  refine fs_iload (k := 4) (p := 116) (by decide +kernel) rfl rfl ?_
  obtain ⟨q5, w4, h⟩ := fx_bd h
  refine fs_callS (idx := 214) (mj := 160) (na := 2) (mx := 2) (p := 119) (args := [.int x1, .int x4]) (rest := [.ref 224, .long x2]) (al2 := [some (.int x1), some (.int x4)]) (by decide +kernel) rfl (by decide +kernel) rfl rfl rfl rfl rfl rfl rfl (by omega) (fun d' hd' => fe_160 (by omega) w4) rfl ?_
  obtain ⟨v6, w7, h⟩ := fx_bd h
  refine fs_laload (p := 120) (by decide +kernel) rfl w7 ?_
  refine fs_lsub (p := 121) (by decide +kernel) rfl ?_
  refine fs_lstore_n (k := 2) (p := 122) (M := 7) (al' := [some (.ref 215), some (.int x1), some (.long (x2 - v6)), none, some (.int x4), o5, none]) (by decide +kernel) rfl mx_162 rfl rfl ?_
  refine fs_iinc (k := 4) (n := 1) (p := 125) (M := 7) (al' := [some (.ref 215), some (.int x1), some (.long (x2 - v6)), none, some (.int (x4 + (1 : Int32))), o5, none]) (by decide +kernel) rfl kc_1 mx_162 rfl rfl rfl ?_
  refine fs_goto (off := -115) (p := 10) (by decide +kernel) (by decide +kernel) ?_
  exact hk_10 _ _ _ _ _ _ h
def fm_162_73 (k_10 : Int32 → Int64 → Int32 → fx_S → Option (Int64 × fx_S)) (x1 : Int32) (x2 : Int64) (x4 : Int32) (x5 : Int64) (s1 : Int32) (s2 : Int64) (σ : fx_S) : Option (Int64 × fx_S) :=
  (fx_stl σ 224 s1 s2).bind fun t1 =>
  (fm_160 x1 x4 t1).bind fun q5 =>
  (fx_ld q5.2 223 x1).bind fun v6 =>
  if ¬ v6 = 0 then (
    (fx_ld q5.2 223 x1).bind fun v11 =>
    if ¬ (v11).toInt64 = 0 then (
    fm_162_107 k_10 x1 x2 x4 q5.1 (x5 - x5 / (v11).toInt64 * (v11).toInt64) q5.2) else none) else (
    fm_162_107 k_10 x1 x2 x4 q5.1 (0 : Int64) q5.2)
theorem fe_162_73 {d : Nat} (hd : 1 ≤ d) {k_10 : Int32 → Int64 → Int32 → fx_S → Option (Int64 × fx_S)} (hk_10 : ∀ (x1 : Int32) (x2 : Int64) (x4 : Int32) (o5 : Option Value) (σ : fx_S) (q : Int64 × fx_S), k_10 x1 x2 x4 σ = some q → fx_E none 162 d 10 [some (.ref 215), some (.int x1), some (.long x2), none, some (.int x4), o5, none] [] σ (some (.long q.1)) q.2) (x1 : Int32) (x2 : Int64) (x4 : Int32) (x5 : Int64) (s1 : Int32) (s2 : Int64) (σ : fx_S) (q : Int64 × fx_S) (h : fm_162_73 k_10  x1 x2 x4 x5 s1 s2 σ = some q) : fx_E none 162 d 73 [some (.ref 215), some (.int x1), some (.long x2), none, some (.int x4), some (.long x5), none] [.long s2, .int s1, .ref 224] σ (some (.long q.1)) q.2 := by
  unfold fm_162_73 at h
  obtain ⟨t1, w2, h⟩ := fx_bd h
  refine fs_lastore (p := 74) (by decide +kernel) rfl w2 ?_
  refine fs_aload_n (k := 0) (p := 75) (by decide +kernel) rfl rfl ?_
  refine fs_gfr (idx := 39) (ci := 10) (j := 16) (p := 78) (by decide +kernel) rfl (by decide +kernel) fo_215 (fr_a215_16) ?_
  refine fs_iload_n (k := 1) (p := 79) (by decide +kernel) rfl rfl ?_
  refine fs_iload (k := 4) (p := 81) (by decide +kernel) rfl rfl ?_
  obtain ⟨q5, w4, h⟩ := fx_bd h
  refine fs_callS (idx := 214) (mj := 160) (na := 2) (mx := 2) (p := 84) (args := [.int x1, .int x4]) (rest := [.ref 225]) (al2 := [some (.int x1), some (.int x4)]) (by decide +kernel) rfl (by decide +kernel) rfl rfl rfl rfl rfl rfl rfl (by omega) (fun d' hd' => fe_160 (by omega) w4) rfl ?_
  refine fs_aload_n (k := 0) (p := 85) (by decide +kernel) rfl rfl ?_
  refine fs_gfr (idx := 33) (ci := 10) (j := 14) (p := 88) (by decide +kernel) rfl (by decide +kernel) fo_215 (fr_a215_14) ?_
  refine fs_iload_n (k := 1) (p := 89) (by decide +kernel) rfl rfl ?_
  obtain ⟨v6, w7, h⟩ := fx_bd h
  refine fs_iaload (p := 90) (by decide +kernel) rfl w7 ?_
  by_cases c10 : ¬ v6 = 0
  · rw [if_pos c10] at h
    refine fs_if_ne_t (off := 7) (t := 97) (by decide +kernel) (by decide +kernel) c10 ?_
    refine fs_lload (k := 5) (p := 99) (by decide +kernel) rfl rfl ?_
    refine fs_aload_n (k := 0) (p := 100) (by decide +kernel) rfl rfl ?_
    refine fs_gfr (idx := 33) (ci := 10) (j := 14) (p := 103) (by decide +kernel) rfl (by decide +kernel) fo_215 (fr_a215_14) ?_
    refine fs_iload_n (k := 1) (p := 104) (by decide +kernel) rfl rfl ?_
    obtain ⟨v11, w12, h⟩ := fx_bd h
    refine fs_iaload (p := 105) (by decide +kernel) rfl w12 ?_
    refine fs_i2l (p := 106) (by decide +kernel) rfl ?_
    obtain ⟨z14, h⟩ := fx_gd h
    refine fs_lrem (p := 107) (by decide +kernel) rfl z14 ?_
    exact fe_162_107 hd hk_10 _ _ _ _ _ _ _ _ h
  · rw [if_neg c10] at h
    refine fs_if_ne_f (off := 7) (t := 97) (p := 93) (by decide +kernel) (by decide +kernel) rfl c10 ?_
    refine fs_lconst (n := 0) (p := 94) (by decide +kernel) rfl kl_0 ?_
    refine fs_goto (off := 13) (p := 107) (by decide +kernel) (by decide +kernel) ?_
    exact fe_162_107 hd hk_10 _ _ _ _ _ _ _ _ h
def fm_162_10 : Nat → Int32 → Int64 → Int32 → fx_S → Option (Int64 × fx_S)
  | 0, _, _, _, _ => none
  | n + 1, x1, x2, x4, σ =>
    if (σ.1 215 18) ≤ x4 then (
      (fx_ld σ 223 x1).bind fun v4 =>
      if ¬ v4 = 0 then (
        some (x2, σ)) else (
        some ((0 : Int64), σ))) else (
      (fx_ldl σ 221 x1).bind fun v9 =>
      (fm_160 x1 x4 σ).bind fun q13 =>
      (fx_ld q13.2 222 q13.1).bind fun v14 =>
      (fm_160 x1 x4 q13.2).bind fun q19 =>
      (fx_ld q19.2 223 x1).bind fun v20 =>
      if ¬ v20 = 0 then (
        (fx_ld q19.2 223 x1).bind fun v24 =>
        if ¬ (v24).toInt64 = 0 then (
        fm_162_73 (fm_162_10 n) x1 x2 x4 (v9 * (v14).toInt64) q19.1 ((v9 * (v14).toInt64) / (v24).toInt64) q19.2) else none) else (
        fm_162_73 (fm_162_10 n) x1 x2 x4 (v9 * (v14).toInt64) q19.1 (0 : Int64) q19.2))
theorem fe_162_10 {d : Nat} (hd : 1 ≤ d) : ∀ (n : Nat) (x1 : Int32) (x2 : Int64) (x4 : Int32) (o5 : Option Value) (σ : fx_S) (q : Int64 × fx_S), fm_162_10 n x1 x2 x4 σ = some q → fx_E none 162 d 10 [some (.ref 215), some (.int x1), some (.long x2), none, some (.int x4), o5, none] [] σ (some (.long q.1)) q.2 := by
  intro n
  induction n with
  | zero =>
    intro x1 x2 x4 o5 σ q  h
    rw [fm_162_10] at h
    exact fx_no h
  | succ n ih =>
    intro x1 x2 x4 o5 σ q  h
    rw [fm_162_10] at h
    refine fs_iload (k := 4) (p := 12) (by decide +kernel) rfl rfl ?_
    refine fs_aload_n (k := 0) (p := 13) (by decide +kernel) rfl rfl ?_
    refine fs_gfi (idx := 211) (ci := 10) (j := 18) (p := 16) (by decide +kernel) rfl (by decide +kernel) fo_215 ?_
    by_cases c3 : (σ.1 215 18) ≤ x4
    · rw [if_pos c3] at h
      refine fs_icmp_ge_t (off := 112) (t := 128) (by decide +kernel) (by decide +kernel) c3 ?_
      refine fs_aload_n (k := 0) (p := 129) (by decide +kernel) rfl rfl ?_
      refine fs_gfr (idx := 33) (ci := 10) (j := 14) (p := 132) (by decide +kernel) rfl (by decide +kernel) fo_215 (fr_a215_14) ?_
      refine fs_iload_n (k := 1) (p := 133) (by decide +kernel) rfl rfl ?_
      obtain ⟨v4, w5, h⟩ := fx_bd h
      refine fs_iaload (p := 134) (by decide +kernel) rfl w5 ?_
      by_cases c8 : ¬ v4 = 0
      · rw [if_pos c8] at h
        refine fs_if_ne_t (off := 7) (t := 141) (by decide +kernel) (by decide +kernel) c8 ?_
        refine fs_lload_n (k := 2) (p := 142) (by decide +kernel) rfl rfl ?_
        have h := Option.some.inj h
        subst h
        exact fs_lret (by decide +kernel) rt_162
      · rw [if_neg c8] at h
        refine fs_if_ne_f (off := 7) (t := 141) (p := 137) (by decide +kernel) (by decide +kernel) rfl c8 ?_
        refine fs_lconst (n := 0) (p := 138) (by decide +kernel) rfl kl_0 ?_
        refine fs_goto (off := 4) (p := 142) (by decide +kernel) (by decide +kernel) ?_
        have h := Option.some.inj h
        subst h
        exact fs_lret (by decide +kernel) rt_162
    · rw [if_neg c3] at h
      refine fs_icmp_ge_f (off := 112) (t := 128) (p := 19) (by decide +kernel) (by decide +kernel) rfl c3 ?_
      refine fs_aload_n (k := 0) (p := 20) (by decide +kernel) rfl rfl ?_
      refine fs_gfr (idx := 26) (ci := 10) (j := 12) (p := 23) (by decide +kernel) rfl (by decide +kernel) fo_215 (fr_a215_12) ?_
      refine fs_iload_n (k := 1) (p := 24) (by decide +kernel) rfl rfl ?_
      obtain ⟨v9, w10, h⟩ := fx_bd h
      refine fs_laload (p := 25) (by decide +kernel) rfl w10 ?_
      refine fs_aload_n (k := 0) (p := 26) (by decide +kernel) rfl rfl ?_
      refine fs_gfr (idx := 30) (ci := 10) (j := 13) (p := 29) (by decide +kernel) rfl (by decide +kernel) fo_215 (fr_a215_13) ?_
      refine fs_iload_n (k := 1) (p := 30) (by decide +kernel) rfl rfl ?_
      refine fs_iload (k := 4) (p := 32) (by decide +kernel) rfl rfl ?_
      obtain ⟨q13, w12, h⟩ := fx_bd h
      refine fs_callS (idx := 214) (mj := 160) (na := 2) (mx := 2) (p := 35) (args := [.int x1, .int x4]) (rest := [.ref 222, .long v9]) (al2 := [some (.int x1), some (.int x4)]) (by decide +kernel) rfl (by decide +kernel) rfl rfl rfl rfl rfl rfl rfl (by omega) (fun d' hd' => fe_160 (by omega) w12) rfl ?_
      obtain ⟨v14, w15, h⟩ := fx_bd h
      refine fs_iaload (p := 36) (by decide +kernel) rfl w15 ?_
      refine fs_i2l (p := 37) (by decide +kernel) rfl ?_
      refine fs_lmul (p := 38) (by decide +kernel) rfl ?_
      refine fs_lstore (k := 5) (p := 40) (M := 7) (al' := [some (.ref 215), some (.int x1), some (.long x2), none, some (.int x4), some (.long (v9 * (v14).toInt64)), none]) (by decide +kernel) rfl mx_162 rfl rfl ?_
      refine fs_aload_n (k := 0) (p := 41) (by decide +kernel) rfl rfl ?_
      refine fs_gfr (idx := 36) (ci := 10) (j := 15) (p := 44) (by decide +kernel) rfl (by decide +kernel) fo_215 (fr_a215_15) ?_
      refine fs_iload_n (k := 1) (p := 45) (by decide +kernel) rfl rfl ?_
      refine fs_iload (k := 4) (p := 47) (by decide +kernel) rfl rfl ?_
      obtain ⟨q19, w18, h⟩ := fx_bd h
      refine fs_callS (idx := 214) (mj := 160) (na := 2) (mx := 2) (p := 50) (args := [.int x1, .int x4]) (rest := [.ref 224]) (al2 := [some (.int x1), some (.int x4)]) (by decide +kernel) rfl (by decide +kernel) rfl rfl rfl rfl rfl rfl rfl (by omega) (fun d' hd' => fe_160 (by omega) w18) rfl ?_
      refine fs_aload_n (k := 0) (p := 51) (by decide +kernel) rfl rfl ?_
      refine fs_gfr (idx := 33) (ci := 10) (j := 14) (p := 54) (by decide +kernel) rfl (by decide +kernel) fo_215 (fr_a215_14) ?_
      refine fs_iload_n (k := 1) (p := 55) (by decide +kernel) rfl rfl ?_
      obtain ⟨v20, w21, h⟩ := fx_bd h
      refine fs_iaload (p := 56) (by decide +kernel) rfl w21 ?_
      by_cases c23 : ¬ v20 = 0
      · rw [if_pos c23] at h
        refine fs_if_ne_t (off := 7) (t := 63) (by decide +kernel) (by decide +kernel) c23 ?_
        refine fs_lload (k := 5) (p := 65) (by decide +kernel) rfl rfl ?_
        refine fs_aload_n (k := 0) (p := 66) (by decide +kernel) rfl rfl ?_
        refine fs_gfr (idx := 33) (ci := 10) (j := 14) (p := 69) (by decide +kernel) rfl (by decide +kernel) fo_215 (fr_a215_14) ?_
        refine fs_iload_n (k := 1) (p := 70) (by decide +kernel) rfl rfl ?_
        obtain ⟨v24, w25, h⟩ := fx_bd h
        refine fs_iaload (p := 71) (by decide +kernel) rfl w25 ?_
        refine fs_i2l (p := 72) (by decide +kernel) rfl ?_
        obtain ⟨z27, h⟩ := fx_gd h
        refine fs_ldiv (p := 73) (by decide +kernel) rfl z27 ?_
        exact fe_162_73 hd ih _ _ _ _ _ _ _ _ h
      · rw [if_neg c23] at h
        refine fs_if_ne_f (off := 7) (t := 63) (p := 59) (by decide +kernel) (by decide +kernel) rfl c23 ?_
        refine fs_lconst (n := 0) (p := 60) (by decide +kernel) rfl kl_0 ?_
        refine fs_goto (off := 13) (p := 73) (by decide +kernel) (by decide +kernel) ?_
        exact fe_162_73 hd ih _ _ _ _ _ _ _ _ h
def fm_162 (x1 : Int32) (σ : fx_S) : Option (Int64 × fx_S) :=
  (fx_ldl σ 221 x1).bind fun v80 =>
  fm_162_10 100000 x1 v80 (0 : Int32) σ
theorem fe_162 {d : Nat} (hd : 1 ≤ d) {x1 : Int32} {σ : fx_S} {q : Int64 × fx_S} (h : fm_162 x1 σ = some q) : fx_E none 162 d 0 [some (.ref 215), some (.int x1), none, none, none, none, none] [] σ (some (.long q.1)) q.2 := by
  unfold fm_162 at h
  refine fs_aload_n (k := 0) (p := 1) (by decide +kernel) rfl rfl ?_
  refine fs_gfr (idx := 26) (ci := 10) (j := 12) (p := 4) (by decide +kernel) rfl (by decide +kernel) fo_215 (fr_a215_12) ?_
  refine fs_iload_n (k := 1) (p := 5) (by decide +kernel) rfl rfl ?_
  obtain ⟨v80, w81, h⟩ := fx_bd h
  refine fs_laload (p := 6) (by decide +kernel) rfl w81 ?_
  refine fs_lstore_n (k := 2) (p := 7) (M := 7) (al' := [some (.ref 215), some (.int x1), some (.long v80), none, none, none, none]) (by decide +kernel) rfl mx_162 rfl rfl ?_
  refine fs_iconst (n := 0) (p := 8) (by decide +kernel) rfl kc_0 ?_
  refine fs_istore (k := 4) (p := 10) (M := 7) (al' := [some (.ref 215), some (.int x1), some (.long v80), none, some (.int (0 : Int32)), none, none]) (by decide +kernel) rfl mx_162 rfl rfl ?_
  exact fe_162_10 hd 100000 _ _ _ _ _ _ h

/-! ZoneSharesModel.givesByRests(I)V -/
theorem mx_163 : iv_mx 163 = 6 := by decide +kernel
theorem rt_163 : iv_rt 163 = none := by decide +kernel
def fm_163_79 (k_18 : Int32 → Int64 → Int32 → Int32 → fx_S → Option (fx_S)) (x1 : Int32) (x2 : Int64) (x4 : Int32) (x5 : Int32) (σ : fx_S) : Option (fx_S) :=
  k_18 x1 x2 x4 (x5 + (1 : Int32)) σ
theorem fe_163_79 {d : Nat} (hd : 2 ≤ d) {k_18 : Int32 → Int64 → Int32 → Int32 → fx_S → Option (fx_S)} (hk_18 : ∀ (x1 : Int32) (x2 : Int64) (x4 : Int32) (x5 : Int32) (σ : fx_S) (q : fx_S), k_18 x1 x2 x4 x5 σ = some q → fx_E none 163 d 18 [some (.ref 215), some (.int x1), some (.long x2), none, some (.int x4), some (.int x5)] [] σ none q) (x1 : Int32) (x2 : Int64) (x4 : Int32) (x5 : Int32) (σ : fx_S) (q : fx_S) (h : fm_163_79 k_18  x1 x2 x4 x5 σ = some q) : fx_E none 163 d 79 [some (.ref 215), some (.int x1), some (.long x2), none, some (.int x4), some (.int x5)] [] σ none q := by
  unfold fm_163_79 at h
  refine fs_iinc (k := 5) (n := 1) (p := 82) (M := 6) (al' := [some (.ref 215), some (.int x1), some (.long x2), none, some (.int x4), some (.int (x5 + (1 : Int32)))]) (by decide +kernel) rfl kc_1 mx_163 rfl rfl rfl ?_
  refine fs_goto (off := -64) (p := 18) (by decide +kernel) (by decide +kernel) ?_
  exact hk_18 _ _ _ _ _ _ h
def fm_163_75 (k_18 : Int32 → Int64 → Int32 → Int32 → fx_S → Option (fx_S)) (x1 : Int32) (x2 : Int64) (x5 : Int32) (σ : fx_S) : Option (fx_S) :=
  fm_163_79 k_18 x1 x2 x5 x5 σ
theorem fe_163_75 {d : Nat} (hd : 2 ≤ d) {k_18 : Int32 → Int64 → Int32 → Int32 → fx_S → Option (fx_S)} (hk_18 : ∀ (x1 : Int32) (x2 : Int64) (x4 : Int32) (x5 : Int32) (σ : fx_S) (q : fx_S), k_18 x1 x2 x4 x5 σ = some q → fx_E none 163 d 18 [some (.ref 215), some (.int x1), some (.long x2), none, some (.int x4), some (.int x5)] [] σ none q) (x1 : Int32) (x2 : Int64) (x5 : Int32) (o4 : Option Value) (σ : fx_S) (q : fx_S) (h : fm_163_75 k_18  x1 x2 x5 σ = some q) : fx_E none 163 d 75 [some (.ref 215), some (.int x1), some (.long x2), none, o4, some (.int x5)] [] σ none q := by
  unfold fm_163_75 at h
  refine fs_iload (k := 5) (p := 77) (by decide +kernel) rfl rfl ?_
  refine fs_istore (k := 4) (p := 79) (M := 6) (al' := [some (.ref 215), some (.int x1), some (.long x2), none, some (.int x5), some (.int x5)]) (by decide +kernel) rfl mx_163 rfl rfl ?_
  exact fe_163_79 hd hk_18 _ _ _ _ _ _ h
def fm_163_18 (k_6 : Int32 → Int64 → fx_S → Option (fx_S)) : Nat → Int32 → Int64 → Int32 → Int32 → fx_S → Option (fx_S)
  | 0, _, _, _, _, _ => none
  | n + 1, x1, x2, x4, x5, σ =>
    if (σ.1 215 18) ≤ x5 then (
      (fm_160 x1 x4 σ).bind fun q5 =>
      (fx_ldl q5.2 224 q5.1).bind fun v6 =>
      (fx_stl q5.2 224 q5.1 (v6 + (1 : Int64))).bind fun t9 =>
      (fm_160 x1 x4 t9).bind fun q12 =>
      (fx_stl q12.2 225 q12.1 (0 : Int64)).bind fun t13 =>
      k_6 x1 (x2 - (1 : Int64)) t13) else (
      (fm_160 x1 x5 σ).bind fun q17 =>
      (fx_ldl q17.2 225 q17.1).bind fun v18 =>
      if v18 ≤ (0 : Int64) then (
        fm_163_79 (fm_163_18 k_6 n) x1 x2 x4 x5 q17.2) else (
        if x4 = (-1 : Int32) then (
          fm_163_75 (fm_163_18 k_6 n) x1 x2 x5 q17.2) else (
          (fm_160 x1 x5 q17.2).bind fun q26 =>
          (fx_ldl q26.2 225 q26.1).bind fun v27 =>
          (fm_160 x1 x4 q26.2).bind fun q31 =>
          (fx_ldl q31.2 225 q31.1).bind fun v32 =>
          if v27 ≤ v32 then (
            fm_163_79 (fm_163_18 k_6 n) x1 x2 x4 x5 q31.2) else (
            fm_163_75 (fm_163_18 k_6 n) x1 x2 x5 q31.2))))
theorem fe_163_18 {d : Nat} (hd : 2 ≤ d) {k_6 : Int32 → Int64 → fx_S → Option (fx_S)} (hk_6 : ∀ (x1 : Int32) (x2 : Int64) (o4 : Option Value) (o5 : Option Value) (σ : fx_S) (q : fx_S), k_6 x1 x2 σ = some q → fx_E none 163 d 6 [some (.ref 215), some (.int x1), some (.long x2), none, o4, o5] [] σ none q) : ∀ (n : Nat) (x1 : Int32) (x2 : Int64) (x4 : Int32) (x5 : Int32) (σ : fx_S) (q : fx_S), fm_163_18 k_6 n x1 x2 x4 x5 σ = some q → fx_E none 163 d 18 [some (.ref 215), some (.int x1), some (.long x2), none, some (.int x4), some (.int x5)] [] σ none q := by
  intro n
  induction n with
  | zero =>
    intro x1 x2 x4 x5 σ q  h
    rw [fm_163_18] at h
    exact fx_no h
  | succ n ih =>
    intro x1 x2 x4 x5 σ q  h
    rw [fm_163_18] at h
    refine fs_iload (k := 5) (p := 20) (by decide +kernel) rfl rfl ?_
    refine fs_aload_n (k := 0) (p := 21) (by decide +kernel) rfl rfl ?_
    refine fs_gfi (idx := 211) (ci := 10) (j := 18) (p := 24) (by decide +kernel) rfl (by decide +kernel) fo_215 ?_
    by_cases c3 : (σ.1 215 18) ≤ x5
    · rw [if_pos c3] at h
      refine fs_icmp_ge_t (off := 61) (t := 85) (by decide +kernel) (by decide +kernel) c3 ?_
      refine fs_aload_n (k := 0) (p := 86) (by decide +kernel) rfl rfl ?_
      refine fs_gfr (idx := 36) (ci := 10) (j := 15) (p := 89) (by decide +kernel) rfl (by decide +kernel) fo_215 (fr_a215_15) ?_
      refine fs_iload_n (k := 1) (p := 90) (by decide +kernel) rfl rfl ?_
      refine fs_iload (k := 4) (p := 92) (by decide +kernel) rfl rfl ?_
      obtain ⟨q5, w4, h⟩ := fx_bd h
      refine fs_callS (idx := 214) (mj := 160) (na := 2) (mx := 2) (p := 95) (args := [.int x1, .int x4]) (rest := [.ref 224]) (al2 := [some (.int x1), some (.int x4)]) (by decide +kernel) rfl (by decide +kernel) rfl rfl rfl rfl rfl rfl rfl (by omega) (fun d' hd' => fe_160 (by omega) w4) rfl ?_
      refine fs_dup2 (p := 96) (by decide +kernel) rfl rfl rfl ?_
      obtain ⟨v6, w7, h⟩ := fx_bd h
      refine fs_laload (p := 97) (by decide +kernel) rfl w7 ?_
      refine fs_lconst (n := 1) (p := 98) (by decide +kernel) rfl kl_1 ?_
      refine fs_ladd (p := 99) (by decide +kernel) rfl ?_
      obtain ⟨t9, w10, h⟩ := fx_bd h
      refine fs_lastore (p := 100) (by decide +kernel) rfl w10 ?_
      refine fs_aload_n (k := 0) (p := 101) (by decide +kernel) rfl rfl ?_
      refine fs_gfr (idx := 39) (ci := 10) (j := 16) (p := 104) (by decide +kernel) rfl (by decide +kernel) fo_215 (fr_a215_16) ?_
      refine fs_iload_n (k := 1) (p := 105) (by decide +kernel) rfl rfl ?_
      refine fs_iload (k := 4) (p := 107) (by decide +kernel) rfl rfl ?_
      obtain ⟨q12, w11, h⟩ := fx_bd h
      refine fs_callS (idx := 214) (mj := 160) (na := 2) (mx := 2) (p := 110) (args := [.int x1, .int x4]) (rest := [.ref 225]) (al2 := [some (.int x1), some (.int x4)]) (by decide +kernel) rfl (by decide +kernel) rfl rfl rfl rfl rfl rfl rfl (by omega) (fun d' hd' => fe_160 (by omega) w11) rfl ?_
      refine fs_lconst (n := 0) (p := 111) (by decide +kernel) rfl kl_0 ?_
      obtain ⟨t13, w14, h⟩ := fx_bd h
      refine fs_lastore (p := 112) (by decide +kernel) rfl w14 ?_
      refine fs_lload_n (k := 2) (p := 113) (by decide +kernel) rfl rfl ?_
      refine fs_lconst (n := 1) (p := 114) (by decide +kernel) rfl kl_1 ?_
      refine fs_lsub (p := 115) (by decide +kernel) rfl ?_
      refine fs_lstore_n (k := 2) (p := 116) (M := 6) (al' := [some (.ref 215), some (.int x1), some (.long (x2 - (1 : Int64))), none, some (.int x4), some (.int x5)]) (by decide +kernel) rfl mx_163 rfl rfl ?_
      refine fs_goto (off := -110) (p := 6) (by decide +kernel) (by decide +kernel) ?_
      exact hk_6 _ _ _ _ _ _ h
    · rw [if_neg c3] at h
      refine fs_icmp_ge_f (off := 61) (t := 85) (p := 27) (by decide +kernel) (by decide +kernel) rfl c3 ?_
      refine fs_aload_n (k := 0) (p := 28) (by decide +kernel) rfl rfl ?_
      refine fs_gfr (idx := 39) (ci := 10) (j := 16) (p := 31) (by decide +kernel) rfl (by decide +kernel) fo_215 (fr_a215_16) ?_
      refine fs_iload_n (k := 1) (p := 32) (by decide +kernel) rfl rfl ?_
      refine fs_iload (k := 5) (p := 34) (by decide +kernel) rfl rfl ?_
      obtain ⟨q17, w16, h⟩ := fx_bd h
      refine fs_callS (idx := 214) (mj := 160) (na := 2) (mx := 2) (p := 37) (args := [.int x1, .int x5]) (rest := [.ref 225]) (al2 := [some (.int x1), some (.int x5)]) (by decide +kernel) rfl (by decide +kernel) rfl rfl rfl rfl rfl rfl rfl (by omega) (fun d' hd' => fe_160 (by omega) w16) rfl ?_
      obtain ⟨v18, w19, h⟩ := fx_bd h
      refine fs_laload (p := 38) (by decide +kernel) rfl w19 ?_
      refine fs_lconst (n := 0) (p := 39) (by decide +kernel) rfl kl_0 ?_
      by_cases c22 : v18 ≤ (0 : Int64)
      · rw [if_pos c22] at h
        refine fs_lcmp_le_t (off := 39) (t := 79) (by decide +kernel) (by decide +kernel) (by decide +kernel) c22 ?_
        exact fe_163_79 hd ih _ _ _ _ _ _ h
      · rw [if_neg c22] at h
        refine fs_lcmp_le_f (off := 39) (t := 79) (p := 43) (by decide +kernel) (by decide +kernel) (by decide +kernel) rfl c22 ?_
        refine fs_iload (k := 4) (p := 45) (by decide +kernel) rfl rfl ?_
        refine fs_iconst (n := -1) (p := 46) (by decide +kernel) rfl kc_m1 ?_
        by_cases c24 : x4 = (-1 : Int32)
        · rw [if_pos c24] at h
          refine fs_icmp_eq_t (off := 29) (t := 75) (by decide +kernel) (by decide +kernel) c24 ?_
          exact fe_163_75 hd ih _ _ _ _ _ _ h
        · rw [if_neg c24] at h
          refine fs_icmp_eq_f (off := 29) (t := 75) (p := 49) (by decide +kernel) (by decide +kernel) rfl c24 ?_
          refine fs_aload_n (k := 0) (p := 50) (by decide +kernel) rfl rfl ?_
          refine fs_gfr (idx := 39) (ci := 10) (j := 16) (p := 53) (by decide +kernel) rfl (by decide +kernel) fo_215 (fr_a215_16) ?_
          refine fs_iload_n (k := 1) (p := 54) (by decide +kernel) rfl rfl ?_
          refine fs_iload (k := 5) (p := 56) (by decide +kernel) rfl rfl ?_
          obtain ⟨q26, w25, h⟩ := fx_bd h
          refine fs_callS (idx := 214) (mj := 160) (na := 2) (mx := 2) (p := 59) (args := [.int x1, .int x5]) (rest := [.ref 225]) (al2 := [some (.int x1), some (.int x5)]) (by decide +kernel) rfl (by decide +kernel) rfl rfl rfl rfl rfl rfl rfl (by omega) (fun d' hd' => fe_160 (by omega) w25) rfl ?_
          obtain ⟨v27, w28, h⟩ := fx_bd h
          refine fs_laload (p := 60) (by decide +kernel) rfl w28 ?_
          refine fs_aload_n (k := 0) (p := 61) (by decide +kernel) rfl rfl ?_
          refine fs_gfr (idx := 39) (ci := 10) (j := 16) (p := 64) (by decide +kernel) rfl (by decide +kernel) fo_215 (fr_a215_16) ?_
          refine fs_iload_n (k := 1) (p := 65) (by decide +kernel) rfl rfl ?_
          refine fs_iload (k := 4) (p := 67) (by decide +kernel) rfl rfl ?_
          obtain ⟨q31, w30, h⟩ := fx_bd h
          refine fs_callS (idx := 214) (mj := 160) (na := 2) (mx := 2) (p := 70) (args := [.int x1, .int x4]) (rest := [.ref 225, .long v27]) (al2 := [some (.int x1), some (.int x4)]) (by decide +kernel) rfl (by decide +kernel) rfl rfl rfl rfl rfl rfl rfl (by omega) (fun d' hd' => fe_160 (by omega) w30) rfl ?_
          obtain ⟨v32, w33, h⟩ := fx_bd h
          refine fs_laload (p := 71) (by decide +kernel) rfl w33 ?_
          by_cases c37 : v27 ≤ v32
          · rw [if_pos c37] at h
            refine fs_lcmp_le_t (off := 7) (t := 79) (by decide +kernel) (by decide +kernel) (by decide +kernel) c37 ?_
            exact fe_163_79 hd ih _ _ _ _ _ _ h
          · rw [if_neg c37] at h
            refine fs_lcmp_le_f (off := 7) (t := 79) (p := 75) (by decide +kernel) (by decide +kernel) (by decide +kernel) rfl c37 ?_
            exact fe_163_75 hd ih _ _ _ _ _ _ h
def fm_163_6 : Nat → Int32 → Int64 → fx_S → Option (fx_S)
  | 0, _, _, _ => none
  | n + 1, x1, x2, σ =>
    if x2 ≤ (0 : Int64) then (
      some σ) else (
      fm_163_18 (fm_163_6 n) 100000 x1 x2 (-1 : Int32) (0 : Int32) σ)
theorem fe_163_6 {d : Nat} (hd : 2 ≤ d) : ∀ (n : Nat) (x1 : Int32) (x2 : Int64) (o4 : Option Value) (o5 : Option Value) (σ : fx_S) (q : fx_S), fm_163_6 n x1 x2 σ = some q → fx_E none 163 d 6 [some (.ref 215), some (.int x1), some (.long x2), none, o4, o5] [] σ none q := by
  intro n
  induction n with
  | zero =>
    intro x1 x2 o4 o5 σ q  h
    rw [fm_163_6] at h
    exact fx_no h
  | succ n ih =>
    intro x1 x2 o4 o5 σ q  h
    rw [fm_163_6] at h
    refine fs_lload_n (k := 2) (p := 7) (by decide +kernel) rfl rfl ?_
    refine fs_lconst (n := 0) (p := 8) (by decide +kernel) rfl kl_0 ?_
    by_cases c2 : x2 ≤ (0 : Int64)
    · rw [if_pos c2] at h
      refine fs_lcmp_le_t (off := 110) (t := 119) (by decide +kernel) (by decide +kernel) (by decide +kernel) c2 ?_
      have h := Option.some.inj h
      subst h
      exact fs_ret (by decide +kernel) rt_163
    · rw [if_neg c2] at h
      refine fs_lcmp_le_f (off := 110) (t := 119) (p := 12) (by decide +kernel) (by decide +kernel) (by decide +kernel) rfl c2 ?_
      refine fs_iconst (n := -1) (p := 13) (by decide +kernel) rfl kc_m1 ?_
      refine fs_istore (k := 4) (p := 15) (M := 6) (al' := [some (.ref 215), some (.int x1), some (.long x2), none, some (.int (-1 : Int32)), o5]) (by decide +kernel) rfl mx_163 rfl rfl ?_
      refine fs_iconst (n := 0) (p := 16) (by decide +kernel) rfl kc_0 ?_
      refine fs_istore (k := 5) (p := 18) (M := 6) (al' := [some (.ref 215), some (.int x1), some (.long x2), none, some (.int (-1 : Int32)), some (.int (0 : Int32))]) (by decide +kernel) rfl mx_163 rfl rfl ?_
      exact fe_163_18 hd ih 100000 _ _ _ _ _ _ h
def fm_163 (x1 : Int32) (σ : fx_S) : Option (fx_S) :=
  (fm_162 x1 σ).bind fun q45 =>
  fm_163_6 100000 x1 q45.1 q45.2
theorem fe_163 {d : Nat} (hd : 2 ≤ d) {x1 : Int32} {σ : fx_S} {q : fx_S} (h : fm_163 x1 σ = some q) : fx_E none 163 d 0 [some (.ref 215), some (.int x1), none, none, none, none] [] σ none q := by
  unfold fm_163 at h
  refine fs_aload_n (k := 0) (p := 1) (by decide +kernel) rfl rfl ?_
  refine fs_iload_n (k := 1) (p := 2) (by decide +kernel) rfl rfl ?_
  obtain ⟨q45, w44, h⟩ := fx_bd h
  refine fs_callV (idx := 217) (mj := 162) (ci := 10) (na := 1) (mx := 7) (p := 5) (args := [.ref 215, .int x1]) (rest := []) (al2 := [some (.ref 215), some (.int x1), none, none, none, none, none]) (by decide +kernel) rfl (by decide +kernel) fo_215 rfl rfl rfl rfl rfl rfl rfl (by omega) (fun d' hd' => fe_162 (by omega) w44) rfl ?_
  refine fs_lstore_n (k := 2) (p := 6) (M := 6) (al' := [some (.ref 215), some (.int x1), some (.long q45.1), none, none, none]) (by decide +kernel) rfl mx_163 rfl rfl ?_
  exact fe_163_6 hd 100000 _ _ _ _ _ _ h

/-! ZoneSharesModel.divisor(JJ)J -/
theorem mx_164 : iv_mx 164 = 10 := by decide +kernel
theorem rt_164 : iv_rt 164 = some .long := by decide +kernel
def fm_164_6 : Nat → Int64 → Int64 → fx_S → Option (Int64 × fx_S)
  | 0, _, _, _ => none
  | n + 1, x4, x6, σ =>
    if x6 = (0 : Int64) then (
      some (x4, σ)) else (
      if ¬ x6 = 0 then (
      fm_164_6 n x6 (x4 - x4 / x6 * x6) σ) else none)
theorem fe_164_6 {d : Nat} (hd : 0 ≤ d) : ∀ (n : Nat) (x4 : Int64) (x6 : Int64) (o0 : Option Value) (o2 : Option Value) (o8 : Option Value) (σ : fx_S) (q : Int64 × fx_S), fm_164_6 n x4 x6 σ = some q → fx_E none 164 d 6 [o0, none, o2, none, some (.long x4), none, some (.long x6), none, o8, none] [] σ (some (.long q.1)) q.2 := by
  intro n
  induction n with
  | zero =>
    intro x4 x6 o0 o2 o8 σ q  h
    rw [fm_164_6] at h
    exact fx_no h
  | succ n ih =>
    intro x4 x6 o0 o2 o8 σ q  h
    rw [fm_164_6] at h
    refine fs_lload (k := 6) (p := 8) (by decide +kernel) rfl rfl ?_
    refine fs_lconst (n := 0) (p := 9) (by decide +kernel) rfl kl_0 ?_
    by_cases c2 : x6 = (0 : Int64)
    · rw [if_pos c2] at h
      refine fs_lcmp_eq_t (off := 21) (t := 31) (by decide +kernel) (by decide +kernel) (by decide +kernel) c2 ?_
      refine fs_lload (k := 4) (p := 33) (by decide +kernel) rfl rfl ?_
      have h := Option.some.inj h
      subst h
      exact fs_lret (by decide +kernel) rt_164
    · rw [if_neg c2] at h
      refine fs_lcmp_eq_f (off := 21) (t := 31) (p := 13) (by decide +kernel) (by decide +kernel) (by decide +kernel) rfl c2 ?_
      refine fs_lload (k := 4) (p := 15) (by decide +kernel) rfl rfl ?_
      refine fs_lload (k := 6) (p := 17) (by decide +kernel) rfl rfl ?_
      obtain ⟨z4, h⟩ := fx_gd h
      refine fs_lrem (p := 18) (by decide +kernel) rfl z4 ?_
      refine fs_lstore (k := 8) (p := 20) (M := 10) (al' := [o0, none, o2, none, some (.long x4), none, some (.long x6), none, some (.long (x4 - x4 / x6 * x6)), none]) (by decide +kernel) rfl mx_164 rfl rfl ?_
      refine fs_lload (k := 6) (p := 22) (by decide +kernel) rfl rfl ?_
      refine fs_lstore (k := 4) (p := 24) (M := 10) (al' := [o0, none, o2, none, some (.long x6), none, some (.long x6), none, some (.long (x4 - x4 / x6 * x6)), none]) (by decide +kernel) rfl mx_164 rfl rfl ?_
      refine fs_lload (k := 8) (p := 26) (by decide +kernel) rfl rfl ?_
      refine fs_lstore (k := 6) (p := 28) (M := 10) (al' := [o0, none, o2, none, some (.long x6), none, some (.long (x4 - x4 / x6 * x6)), none, some (.long (x4 - x4 / x6 * x6)), none]) (by decide +kernel) rfl mx_164 rfl rfl ?_
      refine fs_goto (off := -22) (p := 6) (by decide +kernel) (by decide +kernel) ?_
      exact ih _ _ _ _ _ _ _ h
def fm_164 (x0 : Int64) (x2 : Int64) (σ : fx_S) : Option (Int64 × fx_S) :=
  fm_164_6 100000 x0 x2 σ
theorem fe_164 {d : Nat} (hd : 0 ≤ d) {x0 : Int64} {x2 : Int64} {σ : fx_S} {q : Int64 × fx_S} (h : fm_164 x0 x2 σ = some q) : fx_E none 164 d 0 [some (.long x0), none, some (.long x2), none, none, none, none, none, none, none] [] σ (some (.long q.1)) q.2 := by
  unfold fm_164 at h
  refine fs_lload_n (k := 0) (p := 1) (by decide +kernel) rfl rfl ?_
  refine fs_lstore (k := 4) (p := 3) (M := 10) (al' := [some (.long x0), none, some (.long x2), none, some (.long x0), none, none, none, none, none]) (by decide +kernel) rfl mx_164 rfl rfl ?_
  refine fs_lload_n (k := 2) (p := 4) (by decide +kernel) rfl rfl ?_
  refine fs_lstore (k := 6) (p := 6) (M := 10) (al' := [some (.long x0), none, some (.long x2), none, some (.long x0), none, some (.long x2), none, none, none]) (by decide +kernel) rfl mx_164 rfl rfl ?_
  exact fe_164_6 hd 100000 _ _ _ _ _ _ _ h

/-! ZoneSharesModel.addsPart(JJ)V -/
theorem mx_165 : iv_mx 165 = 9 := by decide +kernel
theorem rt_165 : iv_rt 165 = none := by decide +kernel
def fm_165 (x1 : Int64) (x3 : Int64) (σ : fx_S) : Option (fx_S) :=
  (fm_164 (σ.2 215 30) x3 σ).bind fun q10 =>
  if ¬ q10.1 = 0 then (
  if ¬ (q10.2.2 215 30) = 0 then (
  if ¬ x3 = 0 then (
  some (fx_w2 (fx_w2 q10.2 215 29 (((q10.2.2 215 29) * ((((q10.2.2 215 30) / q10.1) * x3) / (q10.2.2 215 30))) + (x1 * ((((q10.2.2 215 30) / q10.1) * x3) / x3)))) 215 30 (((q10.2.2 215 30) / q10.1) * x3))) else none) else none) else none
theorem fe_165 {d : Nat} (hd : 1 ≤ d) {x1 : Int64} {x3 : Int64} {σ : fx_S} {q : fx_S} (h : fm_165 x1 x3 σ = some q) : fx_E none 165 d 0 [some (.ref 215), some (.long x1), none, some (.long x3), none, none, none, none, none] [] σ none q := by
  unfold fm_165 at h
  refine fs_aload_n (k := 0) (p := 1) (by decide +kernel) rfl rfl ?_
  refine fs_gfl (idx := 221) (ci := 10) (j := 30) (p := 4) (by decide +kernel) rfl (by decide +kernel) fo_215 ?_
  refine fs_lload_n (k := 3) (p := 5) (by decide +kernel) rfl rfl ?_
  obtain ⟨q10, w9, h⟩ := fx_bd h
  refine fs_callS (idx := 225) (mj := 164) (na := 2) (mx := 10) (p := 8) (args := [.long (σ.2 215 30), .long x3]) (rest := []) (al2 := [some (.long (σ.2 215 30)), none, some (.long x3), none, none, none, none, none, none, none]) (by decide +kernel) rfl (by decide +kernel) rfl rfl rfl rfl rfl rfl rfl (by omega) (fun d' hd' => fe_164 (by omega) w9) rfl ?_
  refine fs_lstore (k := 5) (p := 10) (M := 9) (al' := [some (.ref 215), some (.long x1), none, some (.long x3), none, some (.long q10.1), none, none, none]) (by decide +kernel) rfl mx_165 rfl rfl ?_
  refine fs_aload_n (k := 0) (p := 11) (by decide +kernel) rfl rfl ?_
  refine fs_gfl (idx := 221) (ci := 10) (j := 30) (p := 14) (by decide +kernel) rfl (by decide +kernel) fo_215 ?_
  refine fs_lload (k := 5) (p := 16) (by decide +kernel) rfl rfl ?_
  obtain ⟨z12, h⟩ := fx_gd h
  refine fs_ldiv (p := 17) (by decide +kernel) rfl z12 ?_
  refine fs_lload_n (k := 3) (p := 18) (by decide +kernel) rfl rfl ?_
  refine fs_lmul (p := 19) (by decide +kernel) rfl ?_
  refine fs_lstore (k := 7) (p := 21) (M := 9) (al' := [some (.ref 215), some (.long x1), none, some (.long x3), none, some (.long q10.1), none, some (.long (((q10.2.2 215 30) / q10.1) * x3)), none]) (by decide +kernel) rfl mx_165 rfl rfl ?_
  refine fs_aload_n (k := 0) (p := 22) (by decide +kernel) rfl rfl ?_
  refine fs_aload_n (k := 0) (p := 23) (by decide +kernel) rfl rfl ?_
  refine fs_gfl (idx := 229) (ci := 10) (j := 29) (p := 26) (by decide +kernel) rfl (by decide +kernel) fo_215 ?_
  refine fs_lload (k := 7) (p := 28) (by decide +kernel) rfl rfl ?_
  refine fs_aload_n (k := 0) (p := 29) (by decide +kernel) rfl rfl ?_
  refine fs_gfl (idx := 221) (ci := 10) (j := 30) (p := 32) (by decide +kernel) rfl (by decide +kernel) fo_215 ?_
  obtain ⟨z14, h⟩ := fx_gd h
  refine fs_ldiv (p := 33) (by decide +kernel) rfl z14 ?_
  refine fs_lmul (p := 34) (by decide +kernel) rfl ?_
  refine fs_lload_n (k := 1) (p := 35) (by decide +kernel) rfl rfl ?_
  refine fs_lload (k := 7) (p := 37) (by decide +kernel) rfl rfl ?_
  refine fs_lload_n (k := 3) (p := 38) (by decide +kernel) rfl rfl ?_
  obtain ⟨z16, h⟩ := fx_gd h
  refine fs_ldiv (p := 39) (by decide +kernel) rfl z16 ?_
  refine fs_lmul (p := 40) (by decide +kernel) rfl ?_
  refine fs_ladd (p := 41) (by decide +kernel) rfl ?_
  refine fs_pfl (idx := 229) (ci := 10) (j := 29) (p := 44) (by decide +kernel) rfl (by decide +kernel) (by decide +kernel) fo_215 ?_
  refine fs_aload_n (k := 0) (p := 45) (by decide +kernel) rfl rfl ?_
  refine fs_lload (k := 7) (p := 47) (by decide +kernel) rfl rfl ?_
  refine fs_pfl (idx := 221) (ci := 10) (j := 30) (p := 50) (by decide +kernel) rfl (by decide +kernel) (by decide +kernel) fo_215 ?_
  have h := Option.some.inj h
  subst h
  exact fs_ret (by decide +kernel) rt_165

/-! ZoneSharesModel.laysColumn(I)V -/
theorem mx_166 : iv_mx 166 = 3 := by decide +kernel
theorem rt_166 : iv_rt 166 = none := by decide +kernel
def fm_166_107 (s1 : Int32) (s2 : Int64) (s3 : Int32) (σ : fx_S) : Option (fx_S) :=
  (fm_131 s3 σ).bind fun q2 =>
  (fx_stl q2.2 228 s1 (s2 + (q2.1).toInt64)).bind fun t4 =>
  some t4
theorem fe_166_107 {d : Nat} (hd : 2 ≤ d) (s1 : Int32) (s2 : Int64) (s3 : Int32) (o0 : Option Value) (o1 : Option Value) (o2 : Option Value) (σ : fx_S) (q : fx_S) (h : fm_166_107  s1 s2 s3 σ = some q) : fx_E none 166 d 107 [o0, o1, o2] [.int s3, .long s2, .int s1, .ref 228] σ none q := by
  unfold fm_166_107 at h
  obtain ⟨q2, w1, h⟩ := fx_bd h
  refine fs_callS (idx := 186) (mj := 131) (na := 1) (mx := 1) (p := 110) (args := [.int s3]) (rest := [.long s2, .int s1, .ref 228]) (al2 := [some (.int s3)]) (by decide +kernel) rfl (by decide +kernel) rfl rfl rfl rfl rfl rfl rfl (by omega) (fun d' hd' => fe_131 (by omega) w1) rfl ?_
  refine fs_i2l (p := 111) (by decide +kernel) rfl ?_
  refine fs_ladd (p := 112) (by decide +kernel) rfl ?_
  obtain ⟨t4, w5, h⟩ := fx_bd h
  refine fs_lastore (p := 113) (by decide +kernel) rfl w5 ?_
  have h := Option.some.inj h
  subst h
  exact fs_ret (by decide +kernel) rt_166
def fm_166_56 (k_12 : Int32 → Int32 → fx_S → Option (fx_S)) (x1 : Int32) (x2 : Int32) (σ : fx_S) : Option (fx_S) :=
  k_12 x1 (x2 + (1 : Int32)) σ
theorem fe_166_56 {d : Nat} (hd : 2 ≤ d) {k_12 : Int32 → Int32 → fx_S → Option (fx_S)} (hk_12 : ∀ (x1 : Int32) (x2 : Int32) (σ : fx_S) (q : fx_S), k_12 x1 x2 σ = some q → fx_E none 166 d 12 [some (.ref 215), some (.int x1), some (.int x2)] [] σ none q) (x1 : Int32) (x2 : Int32) (σ : fx_S) (q : fx_S) (h : fm_166_56 k_12  x1 x2 σ = some q) : fx_E none 166 d 56 [some (.ref 215), some (.int x1), some (.int x2)] [] σ none q := by
  unfold fm_166_56 at h
  refine fs_iinc (k := 2) (n := 1) (p := 59) (M := 3) (al' := [some (.ref 215), some (.int x1), some (.int (x2 + (1 : Int32)))]) (by decide +kernel) rfl kc_1 mx_166 rfl rfl rfl ?_
  refine fs_goto (off := -47) (p := 12) (by decide +kernel) (by decide +kernel) ?_
  exact hk_12 _ _ _ _ h
def fm_166_12 : Nat → Int32 → Int32 → fx_S → Option (fx_S)
  | 0, _, _, _ => none
  | n + 1, x1, x2, σ =>
    if (σ.1 215 17) ≤ x2 then (
      if ¬ (σ.2 215 30) = 0 then (
      (fx_stl σ 227 x1 ((σ.2 215 29) / (σ.2 215 30))).bind fun t6 =>
      (fx_ldl t6 227 x1).bind fun v9 =>
      if ¬ (t6.2 215 30) = 0 then (
      if ((t6.2 215 29) - (t6.2 215 29) / (t6.2 215 30) * (t6.2 215 30)) ≤ (0 : Int64) then (
        fm_166_107 x1 v9 (0 : Int32) t6) else (
        fm_166_107 x1 v9 (1 : Int32) t6)) else none) else none) else (
      (fm_160 x2 x1 σ).bind fun q16 =>
      (fx_ldl q16.2 225 q16.1).bind fun v17 =>
      if v17 ≤ (0 : Int64) then (
        fm_166_56 (fm_166_12 n) x1 x2 q16.2) else (
        (fm_160 x2 x1 q16.2).bind fun q23 =>
        (fx_ldl q23.2 225 q23.1).bind fun v24 =>
        (fx_ld q23.2 223 x2).bind fun v27 =>
        (fm_165 v24 (v27).toInt64 q23.2).bind fun q32 =>
        fm_166_56 (fm_166_12 n) x1 x2 q32))
theorem fe_166_12 {d : Nat} (hd : 2 ≤ d) : ∀ (n : Nat) (x1 : Int32) (x2 : Int32) (σ : fx_S) (q : fx_S), fm_166_12 n x1 x2 σ = some q → fx_E none 166 d 12 [some (.ref 215), some (.int x1), some (.int x2)] [] σ none q := by
  intro n
  induction n with
  | zero =>
    intro x1 x2 σ q  h
    rw [fm_166_12] at h
    exact fx_no h
  | succ n ih =>
    intro x1 x2 σ q  h
    rw [fm_166_12] at h
    refine fs_iload_n (k := 2) (p := 13) (by decide +kernel) rfl rfl ?_
    refine fs_aload_n (k := 0) (p := 14) (by decide +kernel) rfl rfl ?_
    refine fs_gfi (idx := 208) (ci := 10) (j := 17) (p := 17) (by decide +kernel) rfl (by decide +kernel) fo_215 ?_
    by_cases c3 : (σ.1 215 17) ≤ x2
    · rw [if_pos c3] at h
      refine fs_icmp_ge_t (off := 45) (t := 62) (by decide +kernel) (by decide +kernel) c3 ?_
      refine fs_aload_n (k := 0) (p := 63) (by decide +kernel) rfl rfl ?_
      refine fs_gfr (idx := 45) (ci := 10) (j := 20) (p := 66) (by decide +kernel) rfl (by decide +kernel) fo_215 (fr_a215_20) ?_
      refine fs_iload_n (k := 1) (p := 67) (by decide +kernel) rfl rfl ?_
      refine fs_aload_n (k := 0) (p := 68) (by decide +kernel) rfl rfl ?_
      refine fs_gfl (idx := 229) (ci := 10) (j := 29) (p := 71) (by decide +kernel) rfl (by decide +kernel) fo_215 ?_
      refine fs_aload_n (k := 0) (p := 72) (by decide +kernel) rfl rfl ?_
      refine fs_gfl (idx := 221) (ci := 10) (j := 30) (p := 75) (by decide +kernel) rfl (by decide +kernel) fo_215 ?_
      obtain ⟨z5, h⟩ := fx_gd h
      refine fs_ldiv (p := 76) (by decide +kernel) rfl z5 ?_
      obtain ⟨t6, w7, h⟩ := fx_bd h
      refine fs_lastore (p := 77) (by decide +kernel) rfl w7 ?_
      refine fs_aload_n (k := 0) (p := 78) (by decide +kernel) rfl rfl ?_
      refine fs_gfr (idx := 48) (ci := 10) (j := 21) (p := 81) (by decide +kernel) rfl (by decide +kernel) fo_215 (fr_a215_21) ?_
      refine fs_iload_n (k := 1) (p := 82) (by decide +kernel) rfl rfl ?_
      refine fs_aload_n (k := 0) (p := 83) (by decide +kernel) rfl rfl ?_
      refine fs_gfr (idx := 45) (ci := 10) (j := 20) (p := 86) (by decide +kernel) rfl (by decide +kernel) fo_215 (fr_a215_20) ?_
      refine fs_iload_n (k := 1) (p := 87) (by decide +kernel) rfl rfl ?_
      obtain ⟨v9, w10, h⟩ := fx_bd h
      refine fs_laload (p := 88) (by decide +kernel) rfl w10 ?_
      refine fs_aload_n (k := 0) (p := 89) (by decide +kernel) rfl rfl ?_
      refine fs_gfl (idx := 229) (ci := 10) (j := 29) (p := 92) (by decide +kernel) rfl (by decide +kernel) fo_215 ?_
      refine fs_aload_n (k := 0) (p := 93) (by decide +kernel) rfl rfl ?_
      refine fs_gfl (idx := 221) (ci := 10) (j := 30) (p := 96) (by decide +kernel) rfl (by decide +kernel) fo_215 ?_
      obtain ⟨z12, h⟩ := fx_gd h
      refine fs_lrem (p := 97) (by decide +kernel) rfl z12 ?_
      refine fs_lconst (n := 0) (p := 98) (by decide +kernel) rfl kl_0 ?_
      by_cases c14 : ((t6.2 215 29) - (t6.2 215 29) / (t6.2 215 30) * (t6.2 215 30)) ≤ (0 : Int64)
      · rw [if_pos c14] at h
        refine fs_lcmp_le_t (off := 7) (t := 106) (by decide +kernel) (by decide +kernel) (by decide +kernel) c14 ?_
        refine fs_iconst (n := 0) (p := 107) (by decide +kernel) rfl kc_0 ?_
        exact fe_166_107 hd _ _ _ _ _ _ _ _ h
      · rw [if_neg c14] at h
        refine fs_lcmp_le_f (off := 7) (t := 106) (p := 102) (by decide +kernel) (by decide +kernel) (by decide +kernel) rfl c14 ?_
        refine fs_iconst (n := 1) (p := 103) (by decide +kernel) rfl kc_1 ?_
        refine fs_goto (off := 4) (p := 107) (by decide +kernel) (by decide +kernel) ?_
        exact fe_166_107 hd _ _ _ _ _ _ _ _ h
    · rw [if_neg c3] at h
      refine fs_icmp_ge_f (off := 45) (t := 62) (p := 20) (by decide +kernel) (by decide +kernel) rfl c3 ?_
      refine fs_aload_n (k := 0) (p := 21) (by decide +kernel) rfl rfl ?_
      refine fs_gfr (idx := 39) (ci := 10) (j := 16) (p := 24) (by decide +kernel) rfl (by decide +kernel) fo_215 (fr_a215_16) ?_
      refine fs_iload_n (k := 2) (p := 25) (by decide +kernel) rfl rfl ?_
      refine fs_iload_n (k := 1) (p := 26) (by decide +kernel) rfl rfl ?_
      obtain ⟨q16, w15, h⟩ := fx_bd h
      refine fs_callS (idx := 214) (mj := 160) (na := 2) (mx := 2) (p := 29) (args := [.int x2, .int x1]) (rest := [.ref 225]) (al2 := [some (.int x2), some (.int x1)]) (by decide +kernel) rfl (by decide +kernel) rfl rfl rfl rfl rfl rfl rfl (by omega) (fun d' hd' => fe_160 (by omega) w15) rfl ?_
      obtain ⟨v17, w18, h⟩ := fx_bd h
      refine fs_laload (p := 30) (by decide +kernel) rfl w18 ?_
      refine fs_lconst (n := 0) (p := 31) (by decide +kernel) rfl kl_0 ?_
      by_cases c21 : v17 ≤ (0 : Int64)
      · rw [if_pos c21] at h
        refine fs_lcmp_le_t (off := 24) (t := 56) (by decide +kernel) (by decide +kernel) (by decide +kernel) c21 ?_
        exact fe_166_56 hd ih _ _ _ _ h
      · rw [if_neg c21] at h
        refine fs_lcmp_le_f (off := 24) (t := 56) (p := 35) (by decide +kernel) (by decide +kernel) (by decide +kernel) rfl c21 ?_
        refine fs_aload_n (k := 0) (p := 36) (by decide +kernel) rfl rfl ?_
        refine fs_aload_n (k := 0) (p := 37) (by decide +kernel) rfl rfl ?_
        refine fs_gfr (idx := 39) (ci := 10) (j := 16) (p := 40) (by decide +kernel) rfl (by decide +kernel) fo_215 (fr_a215_16) ?_
        refine fs_iload_n (k := 2) (p := 41) (by decide +kernel) rfl rfl ?_
        refine fs_iload_n (k := 1) (p := 42) (by decide +kernel) rfl rfl ?_
        obtain ⟨q23, w22, h⟩ := fx_bd h
        refine fs_callS (idx := 214) (mj := 160) (na := 2) (mx := 2) (p := 45) (args := [.int x2, .int x1]) (rest := [.ref 225, .ref 215]) (al2 := [some (.int x2), some (.int x1)]) (by decide +kernel) rfl (by decide +kernel) rfl rfl rfl rfl rfl rfl rfl (by omega) (fun d' hd' => fe_160 (by omega) w22) rfl ?_
        obtain ⟨v24, w25, h⟩ := fx_bd h
        refine fs_laload (p := 46) (by decide +kernel) rfl w25 ?_
        refine fs_aload_n (k := 0) (p := 47) (by decide +kernel) rfl rfl ?_
        refine fs_gfr (idx := 33) (ci := 10) (j := 14) (p := 50) (by decide +kernel) rfl (by decide +kernel) fo_215 (fr_a215_14) ?_
        refine fs_iload_n (k := 2) (p := 51) (by decide +kernel) rfl rfl ?_
        obtain ⟨v27, w28, h⟩ := fx_bd h
        refine fs_iaload (p := 52) (by decide +kernel) rfl w28 ?_
        refine fs_i2l (p := 53) (by decide +kernel) rfl ?_
        obtain ⟨q32, w31, h⟩ := fx_bd h
        refine fs_callV (idx := 232) (mj := 165) (ci := 10) (na := 2) (mx := 9) (p := 56) (args := [.ref 215, .long v24, .long (v27).toInt64]) (rest := []) (al2 := [some (.ref 215), some (.long v24), none, some (.long (v27).toInt64), none, none, none, none, none]) (by decide +kernel) rfl (by decide +kernel) fo_215 rfl rfl rfl rfl rfl rfl rfl (by omega) (fun d' hd' => fe_165 (by omega) w31) rfl ?_
        exact fe_166_56 hd ih _ _ _ _ h
def fm_166 (x1 : Int32) (σ : fx_S) : Option (fx_S) :=
  fm_166_12 100000 x1 (0 : Int32) (fx_w2 (fx_w2 σ 215 29 (0 : Int64)) 215 30 (1 : Int64))
theorem fe_166 {d : Nat} (hd : 2 ≤ d) {x1 : Int32} {σ : fx_S} {q : fx_S} (h : fm_166 x1 σ = some q) : fx_E none 166 d 0 [some (.ref 215), some (.int x1), none] [] σ none q := by
  unfold fm_166 at h
  refine fs_aload_n (k := 0) (p := 1) (by decide +kernel) rfl rfl ?_
  refine fs_lconst (n := 0) (p := 2) (by decide +kernel) rfl kl_0 ?_
  refine fs_pfl (idx := 229) (ci := 10) (j := 29) (p := 5) (by decide +kernel) rfl (by decide +kernel) (by decide +kernel) fo_215 ?_
  refine fs_aload_n (k := 0) (p := 6) (by decide +kernel) rfl rfl ?_
  refine fs_lconst (n := 1) (p := 7) (by decide +kernel) rfl kl_1 ?_
  refine fs_pfl (idx := 221) (ci := 10) (j := 30) (p := 10) (by decide +kernel) rfl (by decide +kernel) (by decide +kernel) fo_215 ?_
  refine fs_iconst (n := 0) (p := 11) (by decide +kernel) rfl kc_0 ?_
  refine fs_istore_n (k := 2) (p := 12) (M := 3) (al' := [some (.ref 215), some (.int x1), some (.int (0 : Int32))]) (by decide +kernel) rfl mx_166 rfl rfl ?_
  exact fe_166_12 hd 100000 _ _ _ _ h
end
section
/-! ZoneSharesModel.mayBe(II)Z -/
theorem mx_167 : iv_mx 167 = 3 := by decide +kernel
theorem rt_167 : iv_rt 167 = some .boolean := by decide +kernel
def fm_167 (x1 : Int32) (x2 : Int32) (σ : fx_S) : Option (Bool × fx_S) :=
  (fm_160 x1 x2 σ).bind fun q9 =>
  (fx_ldl q9.2 225 q9.1).bind fun v10 =>
  if v10 ≤ (0 : Int64) then (
    some (false, q9.2)) else (
    some (true, q9.2))
theorem fe_167 {d : Nat} (hd : 1 ≤ d) {x1 : Int32} {x2 : Int32} {σ : fx_S} {q : Bool × fx_S} (h : fm_167 x1 x2 σ = some q) : fx_E none 167 d 0 [some (.ref 215), some (.int x1), some (.int x2)] [] σ (some (.int (fx_b q.1))) q.2 := by
  unfold fm_167 at h
  refine fs_aload_n (k := 0) (p := 1) (by decide +kernel) rfl rfl ?_
  refine fs_gfr (idx := 39) (ci := 10) (j := 16) (p := 4) (by decide +kernel) rfl (by decide +kernel) fo_215 (fr_a215_16) ?_
  refine fs_iload_n (k := 1) (p := 5) (by decide +kernel) rfl rfl ?_
  refine fs_iload_n (k := 2) (p := 6) (by decide +kernel) rfl rfl ?_
  obtain ⟨q9, w8, h⟩ := fx_bd h
  refine fs_callS (idx := 214) (mj := 160) (na := 2) (mx := 2) (p := 9) (args := [.int x1, .int x2]) (rest := [.ref 225]) (al2 := [some (.int x1), some (.int x2)]) (by decide +kernel) rfl (by decide +kernel) rfl rfl rfl rfl rfl rfl rfl (by omega) (fun d' hd' => fe_160 (by omega) w8) rfl ?_
  obtain ⟨v10, w11, h⟩ := fx_bd h
  refine fs_laload (p := 10) (by decide +kernel) rfl w11 ?_
  refine fs_lconst (n := 0) (p := 11) (by decide +kernel) rfl kl_0 ?_
  by_cases c14 : v10 ≤ (0 : Int64)
  · rw [if_pos c14] at h
    refine fs_lcmp_le_t (off := 7) (t := 19) (by decide +kernel) (by decide +kernel) (by decide +kernel) c14 ?_
    refine fs_iconst (n := 0) (p := 20) (by decide +kernel) rfl kc_0 ?_
    have h := Option.some.inj h
    subst h
    exact fs_zret (b := false) (by decide +kernel) rt_167
  · rw [if_neg c14] at h
    refine fs_lcmp_le_f (off := 7) (t := 19) (p := 15) (by decide +kernel) (by decide +kernel) (by decide +kernel) rfl c14 ?_
    refine fs_iconst (n := 1) (p := 16) (by decide +kernel) rfl kc_1 ?_
    refine fs_goto (off := 4) (p := 20) (by decide +kernel) (by decide +kernel) ?_
    have h := Option.some.inj h
    subst h
    exact fs_zret (b := true) (by decide +kernel) rt_167

/-! ZoneSharesModel.unknownOf(I)I -/
theorem mx_174 : iv_mx 174 = 4 := by decide +kernel
theorem rt_174 : iv_rt 174 = some .int := by decide +kernel
def fm_174_36 (k_10 : Int32 → Int32 → Int32 → fx_S → Option (Int32 × fx_S)) (x1 : Int32) (x3 : Int32) (s0 : Int32) (s1 : Int32) (σ : fx_S) : Option (Int32 × fx_S) :=
  k_10 x1 (s0 + s1) (x3 + (1 : Int32)) σ
theorem fe_174_36 {d : Nat} (hd : 2 ≤ d) {k_10 : Int32 → Int32 → Int32 → fx_S → Option (Int32 × fx_S)} (hk_10 : ∀ (x1 : Int32) (x2 : Int32) (x3 : Int32) (σ : fx_S) (q : Int32 × fx_S), k_10 x1 x2 x3 σ = some q → fx_E none 174 d 10 [some (.ref 215), some (.int x1), some (.int x2), some (.int x3)] [] σ (some (.int q.1)) q.2) (x1 : Int32) (x3 : Int32) (s0 : Int32) (s1 : Int32) (o2 : Option Value) (σ : fx_S) (q : Int32 × fx_S) (h : fm_174_36 k_10  x1 x3 s0 s1 σ = some q) : fx_E none 174 d 36 [some (.ref 215), some (.int x1), o2, some (.int x3)] [.int s1, .int s0] σ (some (.int q.1)) q.2 := by
  unfold fm_174_36 at h
  refine fs_iadd (p := 37) (by decide +kernel) rfl ?_
  refine fs_istore_n (k := 2) (p := 38) (M := 4) (al' := [some (.ref 215), some (.int x1), some (.int (s0 + s1)), some (.int x3)]) (by decide +kernel) rfl mx_174 rfl rfl ?_
  refine fs_iinc (k := 3) (n := 1) (p := 41) (M := 4) (al' := [some (.ref 215), some (.int x1), some (.int (s0 + s1)), some (.int (x3 + (1 : Int32)))]) (by decide +kernel) rfl kc_1 mx_174 rfl rfl rfl ?_
  refine fs_goto (off := -31) (p := 10) (by decide +kernel) (by decide +kernel) ?_
  exact hk_10 _ _ _ _ _ h
def fm_174_10 : Nat → Int32 → Int32 → Int32 → fx_S → Option (Int32 × fx_S)
  | 0, _, _, _, _ => none
  | n + 1, x1, x2, x3, σ =>
    if (8 : Int32) ≤ x3 then (
      some (x2, σ)) else (
      (fm_153 (0 : Int32) x3 σ).bind fun q4 =>
      if (fx_b q4.1) = 0 then (
        (fm_155 x1 x3 q4.2).bind fun q7 =>
        fm_174_36 (fm_174_10 n) x1 x3 x2 q7.1 q7.2) else (
        fm_174_36 (fm_174_10 n) x1 x3 x2 (0 : Int32) q4.2))
theorem fe_174_10 {d : Nat} (hd : 2 ≤ d) : ∀ (n : Nat) (x1 : Int32) (x2 : Int32) (x3 : Int32) (σ : fx_S) (q : Int32 × fx_S), fm_174_10 n x1 x2 x3 σ = some q → fx_E none 174 d 10 [some (.ref 215), some (.int x1), some (.int x2), some (.int x3)] [] σ (some (.int q.1)) q.2 := by
  intro n
  induction n with
  | zero =>
    intro x1 x2 x3 σ q  h
    rw [fm_174_10] at h
    exact fx_no h
  | succ n ih =>
    intro x1 x2 x3 σ q  h
    rw [fm_174_10] at h
    refine fs_iload_n (k := 3) (p := 11) (by decide +kernel) rfl rfl ?_
    refine fs_bipush (n := 8) (p := 13) (by decide +kernel) rfl kb_8 ?_
    by_cases c2 : (8 : Int32) ≤ x3
    · rw [if_pos c2] at h
      refine fs_icmp_ge_t (off := 31) (t := 44) (by decide +kernel) (by decide +kernel) c2 ?_
      refine fs_iload_n (k := 2) (p := 45) (by decide +kernel) rfl rfl ?_
      have h := Option.some.inj h
      subst h
      exact fs_iret (by decide +kernel) rt_174
    · rw [if_neg c2] at h
      refine fs_icmp_ge_f (off := 31) (t := 44) (p := 16) (by decide +kernel) (by decide +kernel) rfl c2 ?_
      refine fs_iload_n (k := 2) (p := 17) (by decide +kernel) rfl rfl ?_
      refine fs_aload_n (k := 0) (p := 18) (by decide +kernel) rfl rfl ?_
      refine fs_iconst (n := 0) (p := 19) (by decide +kernel) rfl kc_0 ?_
      refine fs_iload_n (k := 3) (p := 20) (by decide +kernel) rfl rfl ?_
      obtain ⟨q4, w3, h⟩ := fx_bd h
      refine fs_callV (idx := 202) (mj := 153) (ci := 10) (na := 2) (mx := 4) (p := 23) (args := [.ref 215, .int (0 : Int32), .int x3]) (rest := [.int x2]) (al2 := [some (.ref 215), some (.int (0 : Int32)), some (.int x3), none]) (by decide +kernel) rfl (by decide +kernel) fo_215 rfl rfl rfl rfl rfl rfl rfl (by omega) (fun d' hd' => fe_153 (by omega) w3) rfl ?_
      by_cases c5 : (fx_b q4.1) = 0
      · rw [if_pos c5] at h
        refine fs_if_eq_t (off := 7) (t := 30) (by decide +kernel) (by decide +kernel) c5 ?_
        refine fs_aload_n (k := 0) (p := 31) (by decide +kernel) rfl rfl ?_
        refine fs_iload_n (k := 1) (p := 32) (by decide +kernel) rfl rfl ?_
        refine fs_iload_n (k := 3) (p := 33) (by decide +kernel) rfl rfl ?_
        obtain ⟨q7, w6, h⟩ := fx_bd h
        refine fs_callV (idx := 264) (mj := 155) (ci := 10) (na := 2) (mx := 3) (p := 36) (args := [.ref 215, .int x1, .int x3]) (rest := [.int x2]) (al2 := [some (.ref 215), some (.int x1), some (.int x3)]) (by decide +kernel) rfl (by decide +kernel) fo_215 rfl rfl rfl rfl rfl rfl rfl (by omega) (fun d' hd' => fe_155 (by omega) w6) rfl ?_
        exact fe_174_36 hd ih _ _ _ _ _ _ _ h
      · rw [if_neg c5] at h
        refine fs_if_eq_f (off := 7) (t := 30) (p := 26) (by decide +kernel) (by decide +kernel) rfl c5 ?_
        refine fs_iconst (n := 0) (p := 27) (by decide +kernel) rfl kc_0 ?_
        refine fs_goto (off := 9) (p := 36) (by decide +kernel) (by decide +kernel) ?_
        exact fe_174_36 hd ih _ _ _ _ _ _ _ h
def fm_174 (x1 : Int32) (σ : fx_S) : Option (Int32 × fx_S) :=
  (fm_155 x1 (8 : Int32) σ).bind fun q11 =>
  fm_174_10 100000 x1 q11.1 (0 : Int32) q11.2
theorem fe_174 {d : Nat} (hd : 2 ≤ d) {x1 : Int32} {σ : fx_S} {q : Int32 × fx_S} (h : fm_174 x1 σ = some q) : fx_E none 174 d 0 [some (.ref 215), some (.int x1), none, none] [] σ (some (.int q.1)) q.2 := by
  unfold fm_174 at h
  refine fs_aload_n (k := 0) (p := 1) (by decide +kernel) rfl rfl ?_
  refine fs_iload_n (k := 1) (p := 2) (by decide +kernel) rfl rfl ?_
  refine fs_bipush (n := 8) (p := 4) (by decide +kernel) rfl kb_8 ?_
  obtain ⟨q11, w10, h⟩ := fx_bd h
  refine fs_callV (idx := 264) (mj := 155) (ci := 10) (na := 2) (mx := 3) (p := 7) (args := [.ref 215, .int x1, .int (8 : Int32)]) (rest := []) (al2 := [some (.ref 215), some (.int x1), some (.int (8 : Int32))]) (by decide +kernel) rfl (by decide +kernel) fo_215 rfl rfl rfl rfl rfl rfl rfl (by omega) (fun d' hd' => fe_155 (by omega) w10) rfl ?_
  refine fs_istore_n (k := 2) (p := 8) (M := 4) (al' := [some (.ref 215), some (.int x1), some (.int q11.1), none]) (by decide +kernel) rfl mx_174 rfl rfl ?_
  refine fs_iconst (n := 0) (p := 9) (by decide +kernel) rfl kc_0 ?_
  refine fs_istore_n (k := 3) (p := 10) (M := 4) (al' := [some (.ref 215), some (.int x1), some (.int q11.1), some (.int (0 : Int32))]) (by decide +kernel) rfl mx_174 rfl rfl ?_
  exact fe_174_10 hd 100000 _ _ _ _ _ h

/-! ZoneSharesModel.isShared()Z -/
theorem mx_175 : iv_mx 175 = 1 := by decide +kernel
theorem rt_175 : iv_rt 175 = some .boolean := by decide +kernel
def fm_175 (σ : fx_S) : Option (Bool × fx_S) :=
  (fx_ld σ 216 (4 : Int32)).bind fun v9 =>
  if ¬ v9 = (1 : Int32) then (
    some (false, σ)) else (
    (fm_154 (0 : Int32) (8 : Int32) σ).bind fun q14 =>
    if q14.1 ≤ 0 then (
      some (false, q14.2)) else (
      some (true, q14.2)))
theorem fe_175 {d : Nat} (hd : 3 ≤ d) {σ : fx_S} {q : Bool × fx_S} (h : fm_175 σ = some q) : fx_E none 175 d 0 [some (.ref 215)] [] σ (some (.int (fx_b q.1))) q.2 := by
  unfold fm_175 at h
  refine fs_aload_n (k := 0) (p := 1) (by decide +kernel) rfl rfl ?_
  refine fs_gfr (idx := 9) (ci := 10) (j := 0) (p := 4) (by decide +kernel) rfl (by decide +kernel) fo_215 (fr_a215_0) ?_
  refine fs_iconst (n := 4) (p := 5) (by decide +kernel) rfl kc_4 ?_
  obtain ⟨v9, w10, h⟩ := fx_bd h
  refine fs_iaload (p := 6) (by decide +kernel) rfl w10 ?_
  refine fs_iconst (n := 1) (p := 7) (by decide +kernel) rfl kc_1 ?_
  by_cases c12 : ¬ v9 = (1 : Int32)
  · rw [if_pos c12] at h
    refine fs_icmp_ne_t (off := 17) (t := 24) (by decide +kernel) (by decide +kernel) c12 ?_
    refine fs_iconst (n := 0) (p := 25) (by decide +kernel) rfl kc_0 ?_
    have h := Option.some.inj h
    subst h
    exact fs_zret (b := false) (by decide +kernel) rt_175
  · rw [if_neg c12] at h
    refine fs_icmp_ne_f (off := 17) (t := 24) (p := 10) (by decide +kernel) (by decide +kernel) rfl c12 ?_
    refine fs_aload_n (k := 0) (p := 11) (by decide +kernel) rfl rfl ?_
    refine fs_iconst (n := 0) (p := 12) (by decide +kernel) rfl kc_0 ?_
    refine fs_bipush (n := 8) (p := 14) (by decide +kernel) rfl kb_8 ?_
    obtain ⟨q14, w13, h⟩ := fx_bd h
    refine fs_callV (idx := 267) (mj := 154) (ci := 10) (na := 2) (mx := 5) (p := 17) (args := [.ref 215, .int (0 : Int32), .int (8 : Int32)]) (rest := []) (al2 := [some (.ref 215), some (.int (0 : Int32)), some (.int (8 : Int32)), none, none]) (by decide +kernel) rfl (by decide +kernel) fo_215 rfl rfl rfl rfl rfl rfl rfl (by omega) (fun d' hd' => fe_154 (by omega) w13) rfl ?_
    by_cases c16 : q14.1 ≤ 0
    · rw [if_pos c16] at h
      refine fs_if_le_t (off := 7) (t := 24) (by decide +kernel) (by decide +kernel) c16 ?_
      refine fs_iconst (n := 0) (p := 25) (by decide +kernel) rfl kc_0 ?_
      have h := Option.some.inj h
      subst h
      exact fs_zret (b := false) (by decide +kernel) rt_175
    · rw [if_neg c16] at h
      refine fs_if_le_f (off := 7) (t := 24) (p := 20) (by decide +kernel) (by decide +kernel) rfl c16 ?_
      refine fs_iconst (n := 1) (p := 21) (by decide +kernel) rfl kc_1 ?_
      refine fs_goto (off := 4) (p := 25) (by decide +kernel) (by decide +kernel) ?_
      have h := Option.some.inj h
      subst h
      exact fs_zret (b := true) (by decide +kernel) rt_175

/-! ZoneSharesModel.asideOf(I)I -/
theorem mx_176 : iv_mx 176 = 2 := by decide +kernel
theorem rt_176 : iv_rt 176 = some .int := by decide +kernel
def fm_176 (x1 : Int32) (σ : fx_S) : Option (Int32 × fx_S) :=
  (fm_175 σ).bind fun q7 =>
  if (fx_b q7.1) = 0 then (
    (fm_174 x1 q7.2).bind fun q10 =>
    some (q10.1, q10.2)) else (
    some ((0 : Int32), q7.2))
theorem fe_176 {d : Nat} (hd : 4 ≤ d) {x1 : Int32} {σ : fx_S} {q : Int32 × fx_S} (h : fm_176 x1 σ = some q) : fx_E none 176 d 0 [some (.ref 215), some (.int x1)] [] σ (some (.int q.1)) q.2 := by
  unfold fm_176 at h
  refine fs_aload_n (k := 0) (p := 1) (by decide +kernel) rfl rfl ?_
  obtain ⟨q7, w6, h⟩ := fx_bd h
  refine fs_callV (idx := 270) (mj := 175) (ci := 10) (na := 0) (mx := 1) (p := 4) (args := [.ref 215]) (rest := []) (al2 := [some (.ref 215)]) (by decide +kernel) rfl (by decide +kernel) fo_215 rfl rfl rfl rfl rfl rfl rfl (by omega) (fun d' hd' => fe_175 (by omega) w6) rfl ?_
  by_cases c8 : (fx_b q7.1) = 0
  · rw [if_pos c8] at h
    refine fs_if_eq_t (off := 7) (t := 11) (by decide +kernel) (by decide +kernel) c8 ?_
    refine fs_aload_n (k := 0) (p := 12) (by decide +kernel) rfl rfl ?_
    refine fs_iload_n (k := 1) (p := 13) (by decide +kernel) rfl rfl ?_
    obtain ⟨q10, w9, h⟩ := fx_bd h
    refine fs_callV (idx := 273) (mj := 174) (ci := 10) (na := 1) (mx := 4) (p := 16) (args := [.ref 215, .int x1]) (rest := []) (al2 := [some (.ref 215), some (.int x1), none, none]) (by decide +kernel) rfl (by decide +kernel) fo_215 rfl rfl rfl rfl rfl rfl rfl (by omega) (fun d' hd' => fe_174 (by omega) w9) rfl ?_
    have h := Option.some.inj h
    subst h
    exact fs_iret (by decide +kernel) rt_176
  · rw [if_neg c8] at h
    refine fs_if_eq_f (off := 7) (t := 11) (p := 7) (by decide +kernel) (by decide +kernel) rfl c8 ?_
    refine fs_iconst (n := 0) (p := 8) (by decide +kernel) rfl kc_0 ?_
    refine fs_goto (off := 8) (p := 16) (by decide +kernel) (by decide +kernel) ?_
    have h := Option.some.inj h
    subst h
    exact fs_iret (by decide +kernel) rt_176

/-! ZoneSharesModel.laysLiving(I)V -/
theorem mx_177 : iv_mx 177 = 3 := by decide +kernel
theorem rt_177 : iv_rt 177 = none := by decide +kernel
def fm_177_124 : Nat → Int32 → fx_S → Option (fx_S)
  | 0, _, _ => none
  | n + 1, x2, σ =>
    if (8 : Int32) ≤ x2 then (
      some σ) else (
      (fx_ld σ 236 x2).bind fun v3 =>
      (fx_ldl σ 224 x2).bind fun v6 =>
      (fx_st σ 236 x2 (v3 + (v6).toInt32)).bind fun t9 =>
      fm_177_124 n (x2 + (1 : Int32)) t9)
theorem fe_177_124 {d : Nat} (hd : 4 ≤ d) : ∀ (n : Nat) (x2 : Int32) (o1 : Option Value) (σ : fx_S) (q : fx_S), fm_177_124 n x2 σ = some q → fx_E none 177 d 124 [some (.ref 215), o1, some (.int x2)] [] σ none q := by
  intro n
  induction n with
  | zero =>
    intro x2 o1 σ q  h
    rw [fm_177_124] at h
    exact fx_no h
  | succ n ih =>
    intro x2 o1 σ q  h
    rw [fm_177_124] at h
    refine fs_iload_n (k := 2) (p := 125) (by decide +kernel) rfl rfl ?_
    refine fs_bipush (n := 8) (p := 127) (by decide +kernel) rfl kb_8 ?_
    by_cases c2 : (8 : Int32) ≤ x2
    · rw [if_pos c2] at h
      refine fs_icmp_ge_t (off := 25) (t := 152) (by decide +kernel) (by decide +kernel) c2 ?_
      have h := Option.some.inj h
      subst h
      exact fs_ret (by decide +kernel) rt_177
    · rw [if_neg c2] at h
      refine fs_icmp_ge_f (off := 25) (t := 152) (p := 130) (by decide +kernel) (by decide +kernel) rfl c2 ?_
      refine fs_aload_n (k := 0) (p := 131) (by decide +kernel) rfl rfl ?_
      refine fs_gfr (idx := 73) (ci := 10) (j := 31) (p := 134) (by decide +kernel) rfl (by decide +kernel) fo_215 (fr_a215_31) ?_
      refine fs_iload_n (k := 2) (p := 135) (by decide +kernel) rfl rfl ?_
      refine fs_dup2 (p := 136) (by decide +kernel) rfl rfl rfl ?_
      obtain ⟨v3, w4, h⟩ := fx_bd h
      refine fs_iaload (p := 137) (by decide +kernel) rfl w4 ?_
      refine fs_aload_n (k := 0) (p := 138) (by decide +kernel) rfl rfl ?_
      refine fs_gfr (idx := 36) (ci := 10) (j := 15) (p := 141) (by decide +kernel) rfl (by decide +kernel) fo_215 (fr_a215_15) ?_
      refine fs_iload_n (k := 2) (p := 142) (by decide +kernel) rfl rfl ?_
      obtain ⟨v6, w7, h⟩ := fx_bd h
      refine fs_laload (p := 143) (by decide +kernel) rfl w7 ?_
      refine fs_l2i (p := 144) (by decide +kernel) rfl ?_
      refine fs_iadd (p := 145) (by decide +kernel) rfl ?_
      obtain ⟨t9, w10, h⟩ := fx_bd h
      refine fs_iastore (p := 146) (by decide +kernel) rfl w10 ?_
      refine fs_iinc (k := 2) (n := 1) (p := 149) (M := 3) (al' := [some (.ref 215), (fx_kl o1), some (.int (x2 + (1 : Int32)))]) (by decide +kernel) rfl kc_1 mx_177 rfl rfl rfl ?_
      refine fs_goto (off := -25) (p := 124) (by decide +kernel) (by decide +kernel) ?_
      exact ih _ _ _ _ h
def fm_177_117 (σ : fx_S) : Option (fx_S) :=
  (fm_163 (0 : Int32) σ).bind fun q2 =>
  fm_177_124 100000 (0 : Int32) q2
theorem fe_177_117 {d : Nat} (hd : 4 ≤ d) (o1 : Option Value) (o2 : Option Value) (σ : fx_S) (q : fx_S) (h : fm_177_117  σ = some q) : fx_E none 177 d 117 [some (.ref 215), o1, o2] [] σ none q := by
  unfold fm_177_117 at h
  refine fs_aload_n (k := 0) (p := 118) (by decide +kernel) rfl rfl ?_
  refine fs_iconst (n := 0) (p := 119) (by decide +kernel) rfl kc_0 ?_
  obtain ⟨q2, w1, h⟩ := fx_bd h
  refine fs_callV (idx := 261) (mj := 163) (ci := 10) (na := 1) (mx := 6) (p := 122) (args := [.ref 215, .int (0 : Int32)]) (rest := []) (al2 := [some (.ref 215), some (.int (0 : Int32)), none, none, none, none]) (by decide +kernel) rfl (by decide +kernel) fo_215 rfl rfl rfl rfl rfl rfl rfl (by omega) (fun d' hd' => fe_163 (by omega) w1) rfl ?_
  refine fs_iconst (n := 0) (p := 123) (by decide +kernel) rfl kc_0 ?_
  refine fs_istore_n (k := 2) (p := 124) (M := 3) (al' := [some (.ref 215), (fx_kl o1), some (.int (0 : Int32))]) (by decide +kernel) rfl mx_177 rfl rfl ?_
  exact fe_177_124 hd 100000 _ _ _ _ h
def fm_177_88 : Nat → Int32 → fx_S → Option (fx_S)
  | 0, _, _ => none
  | n + 1, x2, σ =>
    if (8 : Int32) ≤ x2 then (
      (fm_161 (0 : Int32) σ).bind fun q4 =>
      fm_177_117 q4.2) else (
      (fm_158 x2 σ).bind fun q6 =>
      (fx_st q6.2 222 x2 q6.1).bind fun t7 =>
      fm_177_88 n (x2 + (1 : Int32)) t7)
theorem fe_177_88 {d : Nat} (hd : 4 ≤ d) : ∀ (n : Nat) (x2 : Int32) (o1 : Option Value) (σ : fx_S) (q : fx_S), fm_177_88 n x2 σ = some q → fx_E none 177 d 88 [some (.ref 215), o1, some (.int x2)] [] σ none q := by
  intro n
  induction n with
  | zero =>
    intro x2 o1 σ q  h
    rw [fm_177_88] at h
    exact fx_no h
  | succ n ih =>
    intro x2 o1 σ q  h
    rw [fm_177_88] at h
    refine fs_iload_n (k := 2) (p := 89) (by decide +kernel) rfl rfl ?_
    refine fs_bipush (n := 8) (p := 91) (by decide +kernel) rfl kb_8 ?_
    by_cases c2 : (8 : Int32) ≤ x2
    · rw [if_pos c2] at h
      refine fs_icmp_ge_t (off := 20) (t := 111) (by decide +kernel) (by decide +kernel) c2 ?_
      refine fs_aload_n (k := 0) (p := 112) (by decide +kernel) rfl rfl ?_
      refine fs_iconst (n := 0) (p := 113) (by decide +kernel) rfl kc_0 ?_
      obtain ⟨q4, w3, h⟩ := fx_bd h
      refine fs_callV (idx := 254) (mj := 161) (ci := 10) (na := 1) (mx := 4) (p := 116) (args := [.ref 215, .int (0 : Int32)]) (rest := []) (al2 := [some (.ref 215), some (.int (0 : Int32)), none, none]) (by decide +kernel) rfl (by decide +kernel) fo_215 rfl rfl rfl rfl rfl rfl rfl (by omega) (fun d' hd' => fe_161 (by omega) w3) rfl ?_
      refine fs_pop (p := 117) (by decide +kernel) rfl rfl ?_
      exact fe_177_117 hd _ _ _ _ h
    · rw [if_neg c2] at h
      refine fs_icmp_ge_f (off := 20) (t := 111) (p := 94) (by decide +kernel) (by decide +kernel) rfl c2 ?_
      refine fs_aload_n (k := 0) (p := 95) (by decide +kernel) rfl rfl ?_
      refine fs_gfr (idx := 30) (ci := 10) (j := 13) (p := 98) (by decide +kernel) rfl (by decide +kernel) fo_215 (fr_a215_13) ?_
      refine fs_iload_n (k := 2) (p := 99) (by decide +kernel) rfl rfl ?_
      refine fs_aload_n (k := 0) (p := 100) (by decide +kernel) rfl rfl ?_
      refine fs_iload_n (k := 2) (p := 101) (by decide +kernel) rfl rfl ?_
      obtain ⟨q6, w5, h⟩ := fx_bd h
      refine fs_callV (idx := 279) (mj := 158) (ci := 10) (na := 1) (mx := 4) (p := 104) (args := [.ref 215, .int x2]) (rest := [.int x2, .ref 222]) (al2 := [some (.ref 215), some (.int x2), none, none]) (by decide +kernel) rfl (by decide +kernel) fo_215 rfl rfl rfl rfl rfl rfl rfl (by omega) (fun d' hd' => fe_158 (by omega) w5) rfl ?_
      obtain ⟨t7, w8, h⟩ := fx_bd h
      refine fs_iastore (p := 105) (by decide +kernel) rfl w8 ?_
      refine fs_iinc (k := 2) (n := 1) (p := 108) (M := 3) (al' := [some (.ref 215), (fx_kl o1), some (.int (x2 + (1 : Int32)))]) (by decide +kernel) rfl kc_1 mx_177 rfl rfl rfl ?_
      refine fs_goto (off := -20) (p := 88) (by decide +kernel) (by decide +kernel) ?_
      exact ih _ _ _ _ h
def fm_177_51 (k_21 : Int32 → Int32 → fx_S → Option (fx_S)) (x1 : Int32) (x2 : Int32) (s1 : Int32) (s2 : Int32) (σ : fx_S) : Option (fx_S) :=
  (fx_st σ 236 s1 s2).bind fun t1 =>
  (fx_ld t1 236 x2).bind fun v4 =>
  (fx_st t1 222 x2 v4).bind fun t7 =>
  k_21 x1 (x2 + (1 : Int32)) t7
theorem fe_177_51 {d : Nat} (hd : 4 ≤ d) {k_21 : Int32 → Int32 → fx_S → Option (fx_S)} (hk_21 : ∀ (x1 : Int32) (x2 : Int32) (σ : fx_S) (q : fx_S), k_21 x1 x2 σ = some q → fx_E none 177 d 21 [some (.ref 215), some (.int x1), some (.int x2)] [] σ none q) (x1 : Int32) (x2 : Int32) (s1 : Int32) (s2 : Int32) (σ : fx_S) (q : fx_S) (h : fm_177_51 k_21  x1 x2 s1 s2 σ = some q) : fx_E none 177 d 51 [some (.ref 215), some (.int x1), some (.int x2)] [.int s2, .int s1, .ref 236] σ none q := by
  unfold fm_177_51 at h
  obtain ⟨t1, w2, h⟩ := fx_bd h
  refine fs_iastore (p := 52) (by decide +kernel) rfl w2 ?_
  refine fs_aload_n (k := 0) (p := 53) (by decide +kernel) rfl rfl ?_
  refine fs_gfr (idx := 30) (ci := 10) (j := 13) (p := 56) (by decide +kernel) rfl (by decide +kernel) fo_215 (fr_a215_13) ?_
  refine fs_iload_n (k := 2) (p := 57) (by decide +kernel) rfl rfl ?_
  refine fs_aload_n (k := 0) (p := 58) (by decide +kernel) rfl rfl ?_
  refine fs_gfr (idx := 73) (ci := 10) (j := 31) (p := 61) (by decide +kernel) rfl (by decide +kernel) fo_215 (fr_a215_31) ?_
  refine fs_iload_n (k := 2) (p := 62) (by decide +kernel) rfl rfl ?_
  obtain ⟨v4, w5, h⟩ := fx_bd h
  refine fs_iaload (p := 63) (by decide +kernel) rfl w5 ?_
  obtain ⟨t7, w8, h⟩ := fx_bd h
  refine fs_iastore (p := 64) (by decide +kernel) rfl w8 ?_
  refine fs_iinc (k := 2) (n := 1) (p := 67) (M := 3) (al' := [some (.ref 215), some (.int x1), some (.int (x2 + (1 : Int32)))]) (by decide +kernel) rfl kc_1 mx_177 rfl rfl rfl ?_
  refine fs_goto (off := -46) (p := 21) (by decide +kernel) (by decide +kernel) ?_
  exact hk_21 _ _ _ _ h
def fm_177_21 : Nat → Int32 → Int32 → fx_S → Option (fx_S)
  | 0, _, _, _ => none
  | n + 1, x1, x2, σ =>
    if (8 : Int32) ≤ x2 then (
      (fm_175 σ).bind fun q4 =>
      if ¬ (fx_b q4.1) = 0 then (
        (fm_161 (0 : Int32) q4.2).bind fun q7 =>
        if ¬ q7.1 = 0 then (
          fm_177_117 q7.2) else (
          fm_177_88 100000 (0 : Int32) q7.2)) else (
        some q4.2)) else (
      (fm_153 (0 : Int32) x2 σ).bind fun q11 =>
      if (fx_b q11.1) = 0 then (
        fm_177_51 (fm_177_21 n) x1 x2 x2 (0 : Int32) q11.2) else (
        (fm_155 x1 x2 q11.2).bind fun q14 =>
        fm_177_51 (fm_177_21 n) x1 x2 x2 q14.1 q14.2))
theorem fe_177_21 {d : Nat} (hd : 4 ≤ d) : ∀ (n : Nat) (x1 : Int32) (x2 : Int32) (σ : fx_S) (q : fx_S), fm_177_21 n x1 x2 σ = some q → fx_E none 177 d 21 [some (.ref 215), some (.int x1), some (.int x2)] [] σ none q := by
  intro n
  induction n with
  | zero =>
    intro x1 x2 σ q  h
    rw [fm_177_21] at h
    exact fx_no h
  | succ n ih =>
    intro x1 x2 σ q  h
    rw [fm_177_21] at h
    refine fs_iload_n (k := 2) (p := 22) (by decide +kernel) rfl rfl ?_
    refine fs_bipush (n := 8) (p := 24) (by decide +kernel) rfl kb_8 ?_
    by_cases c2 : (8 : Int32) ≤ x2
    · rw [if_pos c2] at h
      refine fs_icmp_ge_t (off := 46) (t := 70) (by decide +kernel) (by decide +kernel) c2 ?_
      refine fs_aload_n (k := 0) (p := 71) (by decide +kernel) rfl rfl ?_
      obtain ⟨q4, w3, h⟩ := fx_bd h
      refine fs_callV (idx := 270) (mj := 175) (ci := 10) (na := 0) (mx := 1) (p := 74) (args := [.ref 215]) (rest := []) (al2 := [some (.ref 215)]) (by decide +kernel) rfl (by decide +kernel) fo_215 rfl rfl rfl rfl rfl rfl rfl (by omega) (fun d' hd' => fe_175 (by omega) w3) rfl ?_
      by_cases c5 : ¬ (fx_b q4.1) = 0
      · rw [if_pos c5] at h
        refine fs_if_ne_t (off := 4) (t := 78) (by decide +kernel) (by decide +kernel) c5 ?_
        refine fs_aload_n (k := 0) (p := 79) (by decide +kernel) rfl rfl ?_
        refine fs_iconst (n := 0) (p := 80) (by decide +kernel) rfl kc_0 ?_
        obtain ⟨q7, w6, h⟩ := fx_bd h
        refine fs_callV (idx := 254) (mj := 161) (ci := 10) (na := 1) (mx := 4) (p := 83) (args := [.ref 215, .int (0 : Int32)]) (rest := []) (al2 := [some (.ref 215), some (.int (0 : Int32)), none, none]) (by decide +kernel) rfl (by decide +kernel) fo_215 rfl rfl rfl rfl rfl rfl rfl (by omega) (fun d' hd' => fe_161 (by omega) w6) rfl ?_
        by_cases c9 : ¬ q7.1 = 0
        · rw [if_pos c9] at h
          refine fs_if_ne_t (off := 34) (t := 117) (by decide +kernel) (by decide +kernel) c9 ?_
          exact fe_177_117 hd _ _ _ _ h
        · rw [if_neg c9] at h
          refine fs_if_ne_f (off := 34) (t := 117) (p := 86) (by decide +kernel) (by decide +kernel) rfl c9 ?_
          refine fs_iconst (n := 0) (p := 87) (by decide +kernel) rfl kc_0 ?_
          refine fs_istore_n (k := 2) (p := 88) (M := 3) (al' := [some (.ref 215), some (.int x1), some (.int (0 : Int32))]) (by decide +kernel) rfl mx_177 rfl rfl ?_
          exact fe_177_88 hd 100000 _ _ _ _ h
      · rw [if_neg c5] at h
        refine fs_if_ne_f (off := 4) (t := 78) (p := 77) (by decide +kernel) (by decide +kernel) rfl c5 ?_
        have h := Option.some.inj h
        subst h
        exact fs_ret (by decide +kernel) rt_177
    · rw [if_neg c2] at h
      refine fs_icmp_ge_f (off := 46) (t := 70) (p := 27) (by decide +kernel) (by decide +kernel) rfl c2 ?_
      refine fs_aload_n (k := 0) (p := 28) (by decide +kernel) rfl rfl ?_
      refine fs_gfr (idx := 73) (ci := 10) (j := 31) (p := 31) (by decide +kernel) rfl (by decide +kernel) fo_215 (fr_a215_31) ?_
      refine fs_iload_n (k := 2) (p := 32) (by decide +kernel) rfl rfl ?_
      refine fs_aload_n (k := 0) (p := 33) (by decide +kernel) rfl rfl ?_
      refine fs_iconst (n := 0) (p := 34) (by decide +kernel) rfl kc_0 ?_
      refine fs_iload_n (k := 2) (p := 35) (by decide +kernel) rfl rfl ?_
      obtain ⟨q11, w10, h⟩ := fx_bd h
      refine fs_callV (idx := 202) (mj := 153) (ci := 10) (na := 2) (mx := 4) (p := 38) (args := [.ref 215, .int (0 : Int32), .int x2]) (rest := [.int x2, .ref 236]) (al2 := [some (.ref 215), some (.int (0 : Int32)), some (.int x2), none]) (by decide +kernel) rfl (by decide +kernel) fo_215 rfl rfl rfl rfl rfl rfl rfl (by omega) (fun d' hd' => fe_153 (by omega) w10) rfl ?_
      by_cases c12 : (fx_b q11.1) = 0
      · rw [if_pos c12] at h
        refine fs_if_eq_t (off := 12) (t := 50) (by decide +kernel) (by decide +kernel) c12 ?_
        refine fs_iconst (n := 0) (p := 51) (by decide +kernel) rfl kc_0 ?_
        exact fe_177_51 hd ih _ _ _ _ _ _ h
      · rw [if_neg c12] at h
        refine fs_if_eq_f (off := 12) (t := 50) (p := 41) (by decide +kernel) (by decide +kernel) rfl c12 ?_
        refine fs_aload_n (k := 0) (p := 42) (by decide +kernel) rfl rfl ?_
        refine fs_iload_n (k := 1) (p := 43) (by decide +kernel) rfl rfl ?_
        refine fs_iload_n (k := 2) (p := 44) (by decide +kernel) rfl rfl ?_
        obtain ⟨q14, w13, h⟩ := fx_bd h
        refine fs_callV (idx := 264) (mj := 155) (ci := 10) (na := 2) (mx := 3) (p := 47) (args := [.ref 215, .int x1, .int x2]) (rest := [.int x2, .ref 236]) (al2 := [some (.ref 215), some (.int x1), some (.int x2)]) (by decide +kernel) rfl (by decide +kernel) fo_215 rfl rfl rfl rfl rfl rfl rfl (by omega) (fun d' hd' => fe_155 (by omega) w13) rfl ?_
        refine fs_goto (off := 4) (p := 51) (by decide +kernel) (by decide +kernel) ?_
        exact fe_177_51 hd ih _ _ _ _ _ _ h
def fm_177 (x1 : Int32) (σ : fx_S) : Option (fx_S) :=
  (fm_159 (1 : Int32) (8 : Int32) σ).bind fun q53 =>
  (fm_174 x1 q53).bind fun q55 =>
  (fx_stl q55.2 221 (0 : Int32) (q55.1).toInt64).bind fun t57 =>
  fm_177_21 100000 x1 (0 : Int32) t57
theorem fe_177 {d : Nat} (hd : 4 ≤ d) {x1 : Int32} {σ : fx_S} {q : fx_S} (h : fm_177 x1 σ = some q) : fx_E none 177 d 0 [some (.ref 215), some (.int x1), none] [] σ none q := by
  unfold fm_177 at h
  refine fs_aload_n (k := 0) (p := 1) (by decide +kernel) rfl rfl ?_
  refine fs_iconst (n := 1) (p := 2) (by decide +kernel) rfl kc_1 ?_
  refine fs_bipush (n := 8) (p := 4) (by decide +kernel) rfl kb_8 ?_
  obtain ⟨q53, w52, h⟩ := fx_bd h
  refine fs_callV (idx := 276) (mj := 159) (ci := 10) (na := 2) (mx := 4) (p := 7) (args := [.ref 215, .int (1 : Int32), .int (8 : Int32)]) (rest := []) (al2 := [some (.ref 215), some (.int (1 : Int32)), some (.int (8 : Int32)), none]) (by decide +kernel) rfl (by decide +kernel) fo_215 rfl rfl rfl rfl rfl rfl rfl (by omega) (fun d' hd' => fe_159 (by omega) w52) rfl ?_
  refine fs_aload_n (k := 0) (p := 8) (by decide +kernel) rfl rfl ?_
  refine fs_gfr (idx := 26) (ci := 10) (j := 12) (p := 11) (by decide +kernel) rfl (by decide +kernel) fo_215 (fr_a215_12) ?_
  refine fs_iconst (n := 0) (p := 12) (by decide +kernel) rfl kc_0 ?_
  refine fs_aload_n (k := 0) (p := 13) (by decide +kernel) rfl rfl ?_
  refine fs_iload_n (k := 1) (p := 14) (by decide +kernel) rfl rfl ?_
  obtain ⟨q55, w54, h⟩ := fx_bd h
  refine fs_callV (idx := 273) (mj := 174) (ci := 10) (na := 1) (mx := 4) (p := 17) (args := [.ref 215, .int x1]) (rest := [.int (0 : Int32), .ref 221]) (al2 := [some (.ref 215), some (.int x1), none, none]) (by decide +kernel) rfl (by decide +kernel) fo_215 rfl rfl rfl rfl rfl rfl rfl (by omega) (fun d' hd' => fe_174 (by omega) w54) rfl ?_
  refine fs_i2l (p := 18) (by decide +kernel) rfl ?_
  obtain ⟨t57, w58, h⟩ := fx_bd h
  refine fs_lastore (p := 19) (by decide +kernel) rfl w58 ?_
  refine fs_iconst (n := 0) (p := 20) (by decide +kernel) rfl kc_0 ?_
  refine fs_istore_n (k := 2) (p := 21) (M := 3) (al' := [some (.ref 215), some (.int x1), some (.int (0 : Int32))]) (by decide +kernel) rfl mx_177 rfl rfl ?_
  exact fe_177_21 hd 100000 _ _ _ _ h

/-! ZoneSharesModel.allTold(I)I -/
theorem mx_178 : iv_mx 178 = 4 := by decide +kernel
theorem rt_178 : iv_rt 178 = some .int := by decide +kernel
def fm_178_4 : Nat → Int32 → Int32 → Int32 → fx_S → Option (Int32 × fx_S)
  | 0, _, _, _, _ => none
  | n + 1, x1, x2, x3, σ =>
    if (9 : Int32) ≤ x3 then (
      some (x2, σ)) else (
      (fm_155 x1 x3 σ).bind fun q4 =>
      fm_178_4 n x1 (x2 + q4.1) (x3 + (1 : Int32)) q4.2)
theorem fe_178_4 {d : Nat} (hd : 1 ≤ d) : ∀ (n : Nat) (x1 : Int32) (x2 : Int32) (x3 : Int32) (σ : fx_S) (q : Int32 × fx_S), fm_178_4 n x1 x2 x3 σ = some q → fx_E none 178 d 4 [some (.ref 215), some (.int x1), some (.int x2), some (.int x3)] [] σ (some (.int q.1)) q.2 := by
  intro n
  induction n with
  | zero =>
    intro x1 x2 x3 σ q  h
    rw [fm_178_4] at h
    exact fx_no h
  | succ n ih =>
    intro x1 x2 x3 σ q  h
    rw [fm_178_4] at h
    refine fs_iload_n (k := 3) (p := 5) (by decide +kernel) rfl rfl ?_
    refine fs_bipush (n := 9) (p := 7) (by decide +kernel) rfl kb_9 ?_
    by_cases c2 : (9 : Int32) ≤ x3
    · rw [if_pos c2] at h
      refine fs_icmp_ge_t (off := 18) (t := 25) (by decide +kernel) (by decide +kernel) c2 ?_
      refine fs_iload_n (k := 2) (p := 26) (by decide +kernel) rfl rfl ?_
      have h := Option.some.inj h
      subst h
      exact fs_iret (by decide +kernel) rt_178
    · rw [if_neg c2] at h
      refine fs_icmp_ge_f (off := 18) (t := 25) (p := 10) (by decide +kernel) (by decide +kernel) rfl c2 ?_
      refine fs_iload_n (k := 2) (p := 11) (by decide +kernel) rfl rfl ?_
      refine fs_aload_n (k := 0) (p := 12) (by decide +kernel) rfl rfl ?_
      refine fs_iload_n (k := 1) (p := 13) (by decide +kernel) rfl rfl ?_
      refine fs_iload_n (k := 3) (p := 14) (by decide +kernel) rfl rfl ?_
      obtain ⟨q4, w3, h⟩ := fx_bd h
      refine fs_callV (idx := 264) (mj := 155) (ci := 10) (na := 2) (mx := 3) (p := 17) (args := [.ref 215, .int x1, .int x3]) (rest := [.int x2]) (al2 := [some (.ref 215), some (.int x1), some (.int x3)]) (by decide +kernel) rfl (by decide +kernel) fo_215 rfl rfl rfl rfl rfl rfl rfl (by omega) (fun d' hd' => fe_155 (by omega) w3) rfl ?_
      refine fs_iadd (p := 18) (by decide +kernel) rfl ?_
      refine fs_istore_n (k := 2) (p := 19) (M := 4) (al' := [some (.ref 215), some (.int x1), some (.int (x2 + q4.1)), some (.int x3)]) (by decide +kernel) rfl mx_178 rfl rfl ?_
      refine fs_iinc (k := 3) (n := 1) (p := 22) (M := 4) (al' := [some (.ref 215), some (.int x1), some (.int (x2 + q4.1)), some (.int (x3 + (1 : Int32)))]) (by decide +kernel) rfl kc_1 mx_178 rfl rfl rfl ?_
      refine fs_goto (off := -18) (p := 4) (by decide +kernel) (by decide +kernel) ?_
      exact ih _ _ _ _ _ h
def fm_178 (x1 : Int32) (σ : fx_S) : Option (Int32 × fx_S) :=
  fm_178_4 100000 x1 (0 : Int32) (0 : Int32) σ
theorem fe_178 {d : Nat} (hd : 1 ≤ d) {x1 : Int32} {σ : fx_S} {q : Int32 × fx_S} (h : fm_178 x1 σ = some q) : fx_E none 178 d 0 [some (.ref 215), some (.int x1), none, none] [] σ (some (.int q.1)) q.2 := by
  unfold fm_178 at h
  refine fs_iconst (n := 0) (p := 1) (by decide +kernel) rfl kc_0 ?_
  refine fs_istore_n (k := 2) (p := 2) (M := 4) (al' := [some (.ref 215), some (.int x1), some (.int (0 : Int32)), none]) (by decide +kernel) rfl mx_178 rfl rfl ?_
  refine fs_iconst (n := 0) (p := 3) (by decide +kernel) rfl kc_0 ?_
  refine fs_istore_n (k := 3) (p := 4) (M := 4) (al' := [some (.ref 215), some (.int x1), some (.int (0 : Int32)), some (.int (0 : Int32))]) (by decide +kernel) rfl mx_178 rfl rfl ?_
  exact fe_178_4 hd 100000 _ _ _ _ _ h

/-! ZoneSharesModel.people(II)I -/
theorem mx_179 : iv_mx 179 = 3 := by decide +kernel
theorem rt_179 : iv_rt 179 = some .int := by decide +kernel
def fm_179 (x1 : Int32) (x2 : Int32) (σ : fx_S) : Option (Int32 × fx_S) :=
  (fm_148 x1 σ).bind fun q23 =>
  if (fx_b q23.1) = 0 then (
    some ((-1 : Int32), q23.2)) else (
    (fm_130 (x2).toInt64 (0 : Int64) (10 : Int64) q23.2).bind fun q27 =>
    if ¬ (fx_b q27.1) = 0 then (
      if x2 = (8 : Int32) then (
        (fm_174 x1 q27.2).bind fun q42 =>
        some (q42.1, q42.2)) else (
        if x2 = (9 : Int32) then (
          (fm_176 x1 q27.2).bind fun q40 =>
          some (q40.1, q40.2)) else (
          if x2 = (10 : Int32) then (
            (fm_178 x1 q27.2).bind fun q38 =>
            some (q38.1, q38.2)) else (
            (fm_177 x1 q27.2).bind fun q33 =>
            (fx_ld q33 236 x2).bind fun v34 =>
            some (v34, q33))))) else (
      some ((-1 : Int32), q27.2)))
theorem fe_179 {d : Nat} (hd : 5 ≤ d) {x1 : Int32} {x2 : Int32} {σ : fx_S} {q : Int32 × fx_S} (h : fm_179 x1 x2 σ = some q) : fx_E none 179 d 0 [some (.ref 215), some (.int x1), some (.int x2)] [] σ (some (.int q.1)) q.2 := by
  unfold fm_179 at h
  refine fs_iload_n (k := 1) (p := 1) (by decide +kernel) rfl rfl ?_
  obtain ⟨q23, w22, h⟩ := fx_bd h
  refine fs_callS (idx := 190) (mj := 148) (na := 1) (mx := 1) (p := 4) (args := [.int x1]) (rest := []) (al2 := [some (.int x1)]) (by decide +kernel) rfl (by decide +kernel) rfl rfl rfl rfl rfl rfl rfl (by omega) (fun d' hd' => fe_148 (by omega) w22) rfl ?_
  by_cases c24 : (fx_b q23.1) = 0
  · rw [if_pos c24] at h
    refine fs_if_eq_t (off := 15) (t := 19) (by decide +kernel) (by decide +kernel) c24 ?_
    refine fs_iconst (n := -1) (p := 20) (by decide +kernel) rfl kc_m1 ?_
    have h := Option.some.inj h
    subst h
    exact fs_iret (by decide +kernel) rt_179
  · rw [if_neg c24] at h
    refine fs_if_eq_f (off := 15) (t := 19) (p := 7) (by decide +kernel) (by decide +kernel) rfl c24 ?_
    refine fs_iload_n (k := 2) (p := 8) (by decide +kernel) rfl rfl ?_
    refine fs_i2l (p := 9) (by decide +kernel) rfl ?_
    refine fs_lconst (n := 0) (p := 10) (by decide +kernel) rfl kl_0 ?_
    refine fs_ldc2 (idx := 282) (p := 13) (x := 10) (by decide +kernel) rfl (by decide +kernel) ?_
    obtain ⟨q27, w26, h⟩ := fx_bd h
    refine fs_callS (idx := 128) (mj := 130) (na := 3) (mx := 6) (p := 16) (args := [.long (x2).toInt64, .long (0 : Int64), .long (10 : Int64)]) (rest := []) (al2 := [some (.long (x2).toInt64), none, some (.long (0 : Int64)), none, some (.long (10 : Int64)), none]) (by decide +kernel) rfl (by decide +kernel) rfl rfl rfl rfl rfl rfl rfl (by omega) (fun d' hd' => fe_130 (by omega) w26) rfl ?_
    by_cases c28 : ¬ (fx_b q27.1) = 0
    · rw [if_pos c28] at h
      refine fs_if_ne_t (off := 5) (t := 21) (by decide +kernel) (by decide +kernel) c28 ?_
      refine fs_iload_n (k := 2) (p := 22) (by decide +kernel) rfl rfl ?_
      by_cases c29 : x2 = (8 : Int32)
      · rw [if_pos c29] at h
        refine fs_tsw_h (dflt := 44) (lo := 8) (hi := 10) (offs := #[26, 32, 38]) (x := x2) (j := 0) (t := 48) (by decide +kernel) (by decide +kernel) (by decide) (c29.trans (by decide)) ?_
        refine fs_aload_n (k := 0) (p := 49) (by decide +kernel) rfl rfl ?_
        refine fs_iload_n (k := 1) (p := 50) (by decide +kernel) rfl rfl ?_
        obtain ⟨q42, w41, h⟩ := fx_bd h
        refine fs_callV (idx := 273) (mj := 174) (ci := 10) (na := 1) (mx := 4) (p := 53) (args := [.ref 215, .int x1]) (rest := []) (al2 := [some (.ref 215), some (.int x1), none, none]) (by decide +kernel) rfl (by decide +kernel) fo_215 rfl rfl rfl rfl rfl rfl rfl (by omega) (fun d' hd' => fe_174 (by omega) w41) rfl ?_
        have h := Option.some.inj h
        subst h
        exact fs_iret (by decide +kernel) rt_179
      · rw [if_neg c29] at h
        by_cases c30 : x2 = (9 : Int32)
        · rw [if_pos c30] at h
          refine fs_tsw_h (dflt := 44) (lo := 8) (hi := 10) (offs := #[26, 32, 38]) (x := x2) (j := 1) (t := 54) (by decide +kernel) (by decide +kernel) (by decide) (c30.trans (by decide)) ?_
          refine fs_aload_n (k := 0) (p := 55) (by decide +kernel) rfl rfl ?_
          refine fs_iload_n (k := 1) (p := 56) (by decide +kernel) rfl rfl ?_
          obtain ⟨q40, w39, h⟩ := fx_bd h
          refine fs_callV (idx := 284) (mj := 176) (ci := 10) (na := 1) (mx := 2) (p := 59) (args := [.ref 215, .int x1]) (rest := []) (al2 := [some (.ref 215), some (.int x1)]) (by decide +kernel) rfl (by decide +kernel) fo_215 rfl rfl rfl rfl rfl rfl rfl (by omega) (fun d' hd' => fe_176 (by omega) w39) rfl ?_
          have h := Option.some.inj h
          subst h
          exact fs_iret (by decide +kernel) rt_179
        · rw [if_neg c30] at h
          by_cases c31 : x2 = (10 : Int32)
          · rw [if_pos c31] at h
            refine fs_tsw_h (dflt := 44) (lo := 8) (hi := 10) (offs := #[26, 32, 38]) (x := x2) (j := 2) (t := 60) (by decide +kernel) (by decide +kernel) (by decide) (c31.trans (by decide)) ?_
            refine fs_aload_n (k := 0) (p := 61) (by decide +kernel) rfl rfl ?_
            refine fs_iload_n (k := 1) (p := 62) (by decide +kernel) rfl rfl ?_
            obtain ⟨q38, w37, h⟩ := fx_bd h
            refine fs_callV (idx := 287) (mj := 178) (ci := 10) (na := 1) (mx := 4) (p := 65) (args := [.ref 215, .int x1]) (rest := []) (al2 := [some (.ref 215), some (.int x1), none, none]) (by decide +kernel) rfl (by decide +kernel) fo_215 rfl rfl rfl rfl rfl rfl rfl (by omega) (fun d' hd' => fe_178 (by omega) w37) rfl ?_
            have h := Option.some.inj h
            subst h
            exact fs_iret (by decide +kernel) rt_179
          · rw [if_neg c31] at h
            refine fs_tsw_d (dflt := 44) (lo := 8) (hi := 10) (offs := #[26, 32, 38]) (x := x2) (t := 66) (by decide +kernel) (by decide +kernel) (by decide) (by decide) (fun j hj => by match j, hj with | 0, _ => exact c29 | 1, _ => exact c30 | 2, _ => exact c31) ?_
            refine fs_aload_n (k := 0) (p := 67) (by decide +kernel) rfl rfl ?_
            refine fs_iload_n (k := 1) (p := 68) (by decide +kernel) rfl rfl ?_
            obtain ⟨q33, w32, h⟩ := fx_bd h
            refine fs_callV (idx := 290) (mj := 177) (ci := 10) (na := 1) (mx := 3) (p := 71) (args := [.ref 215, .int x1]) (rest := []) (al2 := [some (.ref 215), some (.int x1), none]) (by decide +kernel) rfl (by decide +kernel) fo_215 rfl rfl rfl rfl rfl rfl rfl (by omega) (fun d' hd' => fe_177 (by omega) w32) rfl ?_
            refine fs_aload_n (k := 0) (p := 72) (by decide +kernel) rfl rfl ?_
            refine fs_gfr (idx := 73) (ci := 10) (j := 31) (p := 75) (by decide +kernel) rfl (by decide +kernel) fo_215 (fr_a215_31) ?_
            refine fs_iload_n (k := 2) (p := 76) (by decide +kernel) rfl rfl ?_
            obtain ⟨v34, w35, h⟩ := fx_bd h
            refine fs_iaload (p := 77) (by decide +kernel) rfl w35 ?_
            have h := Option.some.inj h
            subst h
            exact fs_iret (by decide +kernel) rt_179
    · rw [if_neg c28] at h
      refine fs_if_ne_f (off := 5) (t := 21) (p := 19) (by decide +kernel) (by decide +kernel) rfl c28 ?_
      refine fs_iconst (n := -1) (p := 20) (by decide +kernel) rfl kc_m1 ?_
      have h := Option.some.inj h
      subst h
      exact fs_iret (by decide +kernel) rt_179

/-! ZoneSharesModel.byCells(II)Z -/
theorem mx_180 : iv_mx 180 = 3 := by decide +kernel
theorem rt_180 : iv_rt 180 = some .boolean := by decide +kernel
def fm_180 (x1 : Int32) (x2 : Int32) (σ : fx_S) : Option (Bool × fx_S) :=
  (fm_157 x1 x2 (-1 : Int32) (0 : Int32) σ).bind fun q6 =>
  if ¬ q6.1 = 0 then (
    some (false, q6.2)) else (
    some (true, q6.2))
theorem fe_180 {d : Nat} (hd : 3 ≤ d) {x1 : Int32} {x2 : Int32} {σ : fx_S} {q : Bool × fx_S} (h : fm_180 x1 x2 σ = some q) : fx_E none 180 d 0 [some (.ref 215), some (.int x1), some (.int x2)] [] σ (some (.int (fx_b q.1))) q.2 := by
  unfold fm_180 at h
  refine fs_aload_n (k := 0) (p := 1) (by decide +kernel) rfl rfl ?_
  refine fs_iload_n (k := 1) (p := 2) (by decide +kernel) rfl rfl ?_
  refine fs_iload_n (k := 2) (p := 3) (by decide +kernel) rfl rfl ?_
  refine fs_iconst (n := -1) (p := 4) (by decide +kernel) rfl kc_m1 ?_
  refine fs_iconst (n := 0) (p := 5) (by decide +kernel) rfl kc_0 ?_
  obtain ⟨q6, w5, h⟩ := fx_bd h
  refine fs_callV (idx := 293) (mj := 157) (ci := 10) (na := 4) (mx := 8) (p := 8) (args := [.ref 215, .int x1, .int x2, .int (-1 : Int32), .int (0 : Int32)]) (rest := []) (al2 := [some (.ref 215), some (.int x1), some (.int x2), some (.int (-1 : Int32)), some (.int (0 : Int32)), none, none, none]) (by decide +kernel) rfl (by decide +kernel) fo_215 rfl rfl rfl rfl rfl rfl rfl (by omega) (fun d' hd' => fe_157 (by omega) w5) rfl ?_
  by_cases c8 : ¬ q6.1 = 0
  · rw [if_pos c8] at h
    refine fs_if_ne_t (off := 7) (t := 15) (by decide +kernel) (by decide +kernel) c8 ?_
    refine fs_iconst (n := 0) (p := 16) (by decide +kernel) rfl kc_0 ?_
    have h := Option.some.inj h
    subst h
    exact fs_zret (b := false) (by decide +kernel) rt_180
  · rw [if_neg c8] at h
    refine fs_if_ne_f (off := 7) (t := 15) (p := 11) (by decide +kernel) (by decide +kernel) rfl c8 ?_
    refine fs_iconst (n := 1) (p := 12) (by decide +kernel) rfl kc_1 ?_
    refine fs_goto (off := 4) (p := 16) (by decide +kernel) (by decide +kernel) ?_
    have h := Option.some.inj h
    subst h
    exact fs_zret (b := true) (by decide +kernel) rt_180

/-! ZoneSharesModel.laysMoved(I)V -/
theorem mx_181 : iv_mx 181 = 5 := by decide +kernel
theorem rt_181 : iv_rt 181 = none := by decide +kernel
def fm_181_44 (k_15 : Int32 → Int32 → fx_S → Option (fx_S)) : Nat → Int32 → Int32 → Int32 → Int32 → fx_S → Option (fx_S)
  | 0, _, _, _, _, _ => none
  | n + 1, x1, x2, x3, x4, σ =>
    if (9 : Int32) ≤ x4 then (
      k_15 x1 (x2 + (1 : Int32)) σ) else (
      (fm_160 x2 x4 σ).bind fun q4 =>
      (fm_157 x1 x2 x4 x3 q4.2).bind fun q6 =>
      (fx_st q6.2 222 q4.1 q6.1).bind fun t7 =>
      fm_181_44 k_15 n x1 x2 x3 (x4 + (1 : Int32)) t7)
theorem fe_181_44 {d : Nat} (hd : 5 ≤ d) {k_15 : Int32 → Int32 → fx_S → Option (fx_S)} (hk_15 : ∀ (x1 : Int32) (x2 : Int32) (o3 : Option Value) (o4 : Option Value) (σ : fx_S) (q : fx_S), k_15 x1 x2 σ = some q → fx_E none 181 d 15 [some (.ref 215), some (.int x1), some (.int x2), o3, o4] [] σ none q) : ∀ (n : Nat) (x1 : Int32) (x2 : Int32) (x3 : Int32) (x4 : Int32) (σ : fx_S) (q : fx_S), fm_181_44 k_15 n x1 x2 x3 x4 σ = some q → fx_E none 181 d 44 [some (.ref 215), some (.int x1), some (.int x2), some (.int x3), some (.int x4)] [] σ none q := by
  intro n
  induction n with
  | zero =>
    intro x1 x2 x3 x4 σ q  h
    rw [fm_181_44] at h
    exact fx_no h
  | succ n ih =>
    intro x1 x2 x3 x4 σ q  h
    rw [fm_181_44] at h
    refine fs_iload (k := 4) (p := 46) (by decide +kernel) rfl rfl ?_
    refine fs_bipush (n := 9) (p := 48) (by decide +kernel) rfl kb_9 ?_
    by_cases c2 : (9 : Int32) ≤ x4
    · rw [if_pos c2] at h
      refine fs_icmp_ge_t (off := 29) (t := 77) (by decide +kernel) (by decide +kernel) c2 ?_
      refine fs_iinc (k := 2) (n := 1) (p := 80) (M := 5) (al' := [some (.ref 215), some (.int x1), some (.int (x2 + (1 : Int32))), some (.int x3), some (.int x4)]) (by decide +kernel) rfl kc_1 mx_181 rfl rfl rfl ?_
      refine fs_goto (off := -65) (p := 15) (by decide +kernel) (by decide +kernel) ?_
      exact hk_15 _ _ _ _ _ _ h
    · rw [if_neg c2] at h
      refine fs_icmp_ge_f (off := 29) (t := 77) (p := 51) (by decide +kernel) (by decide +kernel) rfl c2 ?_
      refine fs_aload_n (k := 0) (p := 52) (by decide +kernel) rfl rfl ?_
      refine fs_gfr (idx := 30) (ci := 10) (j := 13) (p := 55) (by decide +kernel) rfl (by decide +kernel) fo_215 (fr_a215_13) ?_
      refine fs_iload_n (k := 2) (p := 56) (by decide +kernel) rfl rfl ?_
      refine fs_iload (k := 4) (p := 58) (by decide +kernel) rfl rfl ?_
      obtain ⟨q4, w3, h⟩ := fx_bd h
      refine fs_callS (idx := 214) (mj := 160) (na := 2) (mx := 2) (p := 61) (args := [.int x2, .int x4]) (rest := [.ref 222]) (al2 := [some (.int x2), some (.int x4)]) (by decide +kernel) rfl (by decide +kernel) rfl rfl rfl rfl rfl rfl rfl (by omega) (fun d' hd' => fe_160 (by omega) w3) rfl ?_
      refine fs_aload_n (k := 0) (p := 62) (by decide +kernel) rfl rfl ?_
      refine fs_iload_n (k := 1) (p := 63) (by decide +kernel) rfl rfl ?_
      refine fs_iload_n (k := 2) (p := 64) (by decide +kernel) rfl rfl ?_
      refine fs_iload (k := 4) (p := 66) (by decide +kernel) rfl rfl ?_
      refine fs_iload_n (k := 3) (p := 67) (by decide +kernel) rfl rfl ?_
      obtain ⟨q6, w5, h⟩ := fx_bd h
      refine fs_callV (idx := 293) (mj := 157) (ci := 10) (na := 4) (mx := 8) (p := 70) (args := [.ref 215, .int x1, .int x2, .int x4, .int x3]) (rest := [.int q4.1, .ref 222]) (al2 := [some (.ref 215), some (.int x1), some (.int x2), some (.int x4), some (.int x3), none, none, none]) (by decide +kernel) rfl (by decide +kernel) fo_215 rfl rfl rfl rfl rfl rfl rfl (by omega) (fun d' hd' => fe_157 (by omega) w5) rfl ?_
      obtain ⟨t7, w8, h⟩ := fx_bd h
      refine fs_iastore (p := 71) (by decide +kernel) rfl w8 ?_
      refine fs_iinc (k := 4) (n := 1) (p := 74) (M := 5) (al' := [some (.ref 215), some (.int x1), some (.int x2), some (.int x3), some (.int (x4 + (1 : Int32)))]) (by decide +kernel) rfl kc_1 mx_181 rfl rfl rfl ?_
      refine fs_goto (off := -30) (p := 44) (by decide +kernel) (by decide +kernel) ?_
      exact ih _ _ _ _ _ _ h
def fm_181_15 : Nat → Int32 → Int32 → fx_S → Option (fx_S)
  | 0, _, _, _ => none
  | n + 1, x1, x2, σ =>
    if (8 : Int32) ≤ x2 then (
      some σ) else (
      (fx_ld σ 236 x2).bind fun v3 =>
      (fx_stl σ 221 x2 (v3).toInt64).bind fun t7 =>
      (fm_180 x1 x2 t7).bind fun q10 =>
      fm_181_44 (fm_181_15 n) 100000 x1 x2 (fx_b q10.1) (0 : Int32) q10.2)
theorem fe_181_15 {d : Nat} (hd : 5 ≤ d) : ∀ (n : Nat) (x1 : Int32) (x2 : Int32) (o3 : Option Value) (o4 : Option Value) (σ : fx_S) (q : fx_S), fm_181_15 n x1 x2 σ = some q → fx_E none 181 d 15 [some (.ref 215), some (.int x1), some (.int x2), o3, o4] [] σ none q := by
  intro n
  induction n with
  | zero =>
    intro x1 x2 o3 o4 σ q  h
    rw [fm_181_15] at h
    exact fx_no h
  | succ n ih =>
    intro x1 x2 o3 o4 σ q  h
    rw [fm_181_15] at h
    refine fs_iload_n (k := 2) (p := 16) (by decide +kernel) rfl rfl ?_
    refine fs_bipush (n := 8) (p := 18) (by decide +kernel) rfl kb_8 ?_
    by_cases c2 : (8 : Int32) ≤ x2
    · rw [if_pos c2] at h
      refine fs_icmp_ge_t (off := 65) (t := 83) (by decide +kernel) (by decide +kernel) c2 ?_
      have h := Option.some.inj h
      subst h
      exact fs_ret (by decide +kernel) rt_181
    · rw [if_neg c2] at h
      refine fs_icmp_ge_f (off := 65) (t := 83) (p := 21) (by decide +kernel) (by decide +kernel) rfl c2 ?_
      refine fs_aload_n (k := 0) (p := 22) (by decide +kernel) rfl rfl ?_
      refine fs_gfr (idx := 26) (ci := 10) (j := 12) (p := 25) (by decide +kernel) rfl (by decide +kernel) fo_215 (fr_a215_12) ?_
      refine fs_iload_n (k := 2) (p := 26) (by decide +kernel) rfl rfl ?_
      refine fs_aload_n (k := 0) (p := 27) (by decide +kernel) rfl rfl ?_
      refine fs_gfr (idx := 73) (ci := 10) (j := 31) (p := 30) (by decide +kernel) rfl (by decide +kernel) fo_215 (fr_a215_31) ?_
      refine fs_iload_n (k := 2) (p := 31) (by decide +kernel) rfl rfl ?_
      obtain ⟨v3, w4, h⟩ := fx_bd h
      refine fs_iaload (p := 32) (by decide +kernel) rfl w4 ?_
      refine fs_i2l (p := 33) (by decide +kernel) rfl ?_
      obtain ⟨t7, w8, h⟩ := fx_bd h
      refine fs_lastore (p := 34) (by decide +kernel) rfl w8 ?_
      refine fs_aload_n (k := 0) (p := 35) (by decide +kernel) rfl rfl ?_
      refine fs_iload_n (k := 1) (p := 36) (by decide +kernel) rfl rfl ?_
      refine fs_iload_n (k := 2) (p := 37) (by decide +kernel) rfl rfl ?_
      obtain ⟨q10, w9, h⟩ := fx_bd h
      refine fs_callV (idx := 297) (mj := 180) (ci := 10) (na := 2) (mx := 3) (p := 40) (args := [.ref 215, .int x1, .int x2]) (rest := []) (al2 := [some (.ref 215), some (.int x1), some (.int x2)]) (by decide +kernel) rfl (by decide +kernel) fo_215 rfl rfl rfl rfl rfl rfl rfl (by omega) (fun d' hd' => fe_180 (by omega) w9) rfl ?_
      refine fs_istore_n (k := 3) (p := 41) (M := 5) (al' := [some (.ref 215), some (.int x1), some (.int x2), some (.int (fx_b q10.1)), o4]) (by decide +kernel) rfl mx_181 rfl rfl ?_
      refine fs_iconst (n := 0) (p := 42) (by decide +kernel) rfl kc_0 ?_
      refine fs_istore (k := 4) (p := 44) (M := 5) (al' := [some (.ref 215), some (.int x1), some (.int x2), some (.int (fx_b q10.1)), some (.int (0 : Int32))]) (by decide +kernel) rfl mx_181 rfl rfl ?_
      exact fe_181_44 hd ih 100000 _ _ _ _ _ _ h
def fm_181 (x1 : Int32) (σ : fx_S) : Option (fx_S) :=
  (fm_177 x1 σ).bind fun q35 =>
  (fm_159 (8 : Int32) (9 : Int32) q35).bind fun q37 =>
  fm_181_15 100000 x1 (0 : Int32) q37
theorem fe_181 {d : Nat} (hd : 5 ≤ d) {x1 : Int32} {σ : fx_S} {q : fx_S} (h : fm_181 x1 σ = some q) : fx_E none 181 d 0 [some (.ref 215), some (.int x1), none, none, none] [] σ none q := by
  unfold fm_181 at h
  refine fs_aload_n (k := 0) (p := 1) (by decide +kernel) rfl rfl ?_
  refine fs_iload_n (k := 1) (p := 2) (by decide +kernel) rfl rfl ?_
  obtain ⟨q35, w34, h⟩ := fx_bd h
  refine fs_callV (idx := 290) (mj := 177) (ci := 10) (na := 1) (mx := 3) (p := 5) (args := [.ref 215, .int x1]) (rest := []) (al2 := [some (.ref 215), some (.int x1), none]) (by decide +kernel) rfl (by decide +kernel) fo_215 rfl rfl rfl rfl rfl rfl rfl (by omega) (fun d' hd' => fe_177 (by omega) w34) rfl ?_
  refine fs_aload_n (k := 0) (p := 6) (by decide +kernel) rfl rfl ?_
  refine fs_bipush (n := 8) (p := 8) (by decide +kernel) rfl kb_8 ?_
  refine fs_bipush (n := 9) (p := 10) (by decide +kernel) rfl kb_9 ?_
  obtain ⟨q37, w36, h⟩ := fx_bd h
  refine fs_callV (idx := 276) (mj := 159) (ci := 10) (na := 2) (mx := 4) (p := 13) (args := [.ref 215, .int (8 : Int32), .int (9 : Int32)]) (rest := []) (al2 := [some (.ref 215), some (.int (8 : Int32)), some (.int (9 : Int32)), none]) (by decide +kernel) rfl (by decide +kernel) fo_215 rfl rfl rfl rfl rfl rfl rfl (by omega) (fun d' hd' => fe_159 (by omega) w36) rfl ?_
  refine fs_iconst (n := 0) (p := 14) (by decide +kernel) rfl kc_0 ?_
  refine fs_istore_n (k := 2) (p := 15) (M := 5) (al' := [some (.ref 215), some (.int x1), some (.int (0 : Int32)), none, none]) (by decide +kernel) rfl mx_181 rfl rfl ?_
  exact fe_181_15 hd 100000 _ _ _ _ _ _ h

/-! ZoneSharesModel.rowSum(I)I -/
theorem mx_182 : iv_mx 182 = 4 := by decide +kernel
theorem rt_182 : iv_rt 182 = some .int := by decide +kernel
def fm_182_4 : Nat → Int32 → Int32 → Int32 → fx_S → Option (Int32 × fx_S)
  | 0, _, _, _, _ => none
  | n + 1, x1, x2, x3, σ =>
    if (σ.1 215 18) ≤ x3 then (
      some (x2, σ)) else (
      (fm_160 x1 x3 σ).bind fun q5 =>
      (fx_ldl q5.2 224 q5.1).bind fun v6 =>
      fm_182_4 n x1 (x2 + (v6).toInt32) (x3 + (1 : Int32)) q5.2)
theorem fe_182_4 {d : Nat} (hd : 1 ≤ d) : ∀ (n : Nat) (x1 : Int32) (x2 : Int32) (x3 : Int32) (σ : fx_S) (q : Int32 × fx_S), fm_182_4 n x1 x2 x3 σ = some q → fx_E none 182 d 4 [some (.ref 215), some (.int x1), some (.int x2), some (.int x3)] [] σ (some (.int q.1)) q.2 := by
  intro n
  induction n with
  | zero =>
    intro x1 x2 x3 σ q  h
    rw [fm_182_4] at h
    exact fx_no h
  | succ n ih =>
    intro x1 x2 x3 σ q  h
    rw [fm_182_4] at h
    refine fs_iload_n (k := 3) (p := 5) (by decide +kernel) rfl rfl ?_
    refine fs_aload_n (k := 0) (p := 6) (by decide +kernel) rfl rfl ?_
    refine fs_gfi (idx := 211) (ci := 10) (j := 18) (p := 9) (by decide +kernel) rfl (by decide +kernel) fo_215 ?_
    by_cases c3 : (σ.1 215 18) ≤ x3
    · rw [if_pos c3] at h
      refine fs_icmp_ge_t (off := 23) (t := 32) (by decide +kernel) (by decide +kernel) c3 ?_
      refine fs_iload_n (k := 2) (p := 33) (by decide +kernel) rfl rfl ?_
      have h := Option.some.inj h
      subst h
      exact fs_iret (by decide +kernel) rt_182
    · rw [if_neg c3] at h
      refine fs_icmp_ge_f (off := 23) (t := 32) (p := 12) (by decide +kernel) (by decide +kernel) rfl c3 ?_
      refine fs_iload_n (k := 2) (p := 13) (by decide +kernel) rfl rfl ?_
      refine fs_aload_n (k := 0) (p := 14) (by decide +kernel) rfl rfl ?_
      refine fs_gfr (idx := 36) (ci := 10) (j := 15) (p := 17) (by decide +kernel) rfl (by decide +kernel) fo_215 (fr_a215_15) ?_
      refine fs_iload_n (k := 1) (p := 18) (by decide +kernel) rfl rfl ?_
      refine fs_iload_n (k := 3) (p := 19) (by decide +kernel) rfl rfl ?_
      obtain ⟨q5, w4, h⟩ := fx_bd h
      refine fs_callS (idx := 214) (mj := 160) (na := 2) (mx := 2) (p := 22) (args := [.int x1, .int x3]) (rest := [.ref 224, .int x2]) (al2 := [some (.int x1), some (.int x3)]) (by decide +kernel) rfl (by decide +kernel) rfl rfl rfl rfl rfl rfl rfl (by omega) (fun d' hd' => fe_160 (by omega) w4) rfl ?_
      obtain ⟨v6, w7, h⟩ := fx_bd h
      refine fs_laload (p := 23) (by decide +kernel) rfl w7 ?_
      refine fs_l2i (p := 24) (by decide +kernel) rfl ?_
      refine fs_iadd (p := 25) (by decide +kernel) rfl ?_
      refine fs_istore_n (k := 2) (p := 26) (M := 4) (al' := [some (.ref 215), some (.int x1), some (.int (x2 + (v6).toInt32)), some (.int x3)]) (by decide +kernel) rfl mx_182 rfl rfl ?_
      refine fs_iinc (k := 3) (n := 1) (p := 29) (M := 4) (al' := [some (.ref 215), some (.int x1), some (.int (x2 + (v6).toInt32)), some (.int (x3 + (1 : Int32)))]) (by decide +kernel) rfl kc_1 mx_182 rfl rfl rfl ?_
      refine fs_goto (off := -25) (p := 4) (by decide +kernel) (by decide +kernel) ?_
      exact ih _ _ _ _ _ h
def fm_182 (x1 : Int32) (σ : fx_S) : Option (Int32 × fx_S) :=
  fm_182_4 100000 x1 (0 : Int32) (0 : Int32) σ
theorem fe_182 {d : Nat} (hd : 1 ≤ d) {x1 : Int32} {σ : fx_S} {q : Int32 × fx_S} (h : fm_182 x1 σ = some q) : fx_E none 182 d 0 [some (.ref 215), some (.int x1), none, none] [] σ (some (.int q.1)) q.2 := by
  unfold fm_182 at h
  refine fs_iconst (n := 0) (p := 1) (by decide +kernel) rfl kc_0 ?_
  refine fs_istore_n (k := 2) (p := 2) (M := 4) (al' := [some (.ref 215), some (.int x1), some (.int (0 : Int32)), none]) (by decide +kernel) rfl mx_182 rfl rfl ?_
  refine fs_iconst (n := 0) (p := 3) (by decide +kernel) rfl kc_0 ?_
  refine fs_istore_n (k := 3) (p := 4) (M := 4) (al' := [some (.ref 215), some (.int x1), some (.int (0 : Int32)), some (.int (0 : Int32))]) (by decide +kernel) rfl mx_182 rfl rfl ?_
  exact fe_182_4 hd 100000 _ _ _ _ _ h

/-! ZoneSharesModel.columnSum(I)I -/
theorem mx_183 : iv_mx 183 = 4 := by decide +kernel
theorem rt_183 : iv_rt 183 = some .int := by decide +kernel
def fm_183_4 : Nat → Int32 → Int32 → Int32 → fx_S → Option (Int32 × fx_S)
  | 0, _, _, _, _ => none
  | n + 1, x1, x2, x3, σ =>
    if (σ.1 215 17) ≤ x3 then (
      some (x2, σ)) else (
      (fm_160 x3 x1 σ).bind fun q5 =>
      (fx_ldl q5.2 224 q5.1).bind fun v6 =>
      fm_183_4 n x1 (x2 + (v6).toInt32) (x3 + (1 : Int32)) q5.2)
theorem fe_183_4 {d : Nat} (hd : 1 ≤ d) : ∀ (n : Nat) (x1 : Int32) (x2 : Int32) (x3 : Int32) (σ : fx_S) (q : Int32 × fx_S), fm_183_4 n x1 x2 x3 σ = some q → fx_E none 183 d 4 [some (.ref 215), some (.int x1), some (.int x2), some (.int x3)] [] σ (some (.int q.1)) q.2 := by
  intro n
  induction n with
  | zero =>
    intro x1 x2 x3 σ q  h
    rw [fm_183_4] at h
    exact fx_no h
  | succ n ih =>
    intro x1 x2 x3 σ q  h
    rw [fm_183_4] at h
    refine fs_iload_n (k := 3) (p := 5) (by decide +kernel) rfl rfl ?_
    refine fs_aload_n (k := 0) (p := 6) (by decide +kernel) rfl rfl ?_
    refine fs_gfi (idx := 208) (ci := 10) (j := 17) (p := 9) (by decide +kernel) rfl (by decide +kernel) fo_215 ?_
    by_cases c3 : (σ.1 215 17) ≤ x3
    · rw [if_pos c3] at h
      refine fs_icmp_ge_t (off := 23) (t := 32) (by decide +kernel) (by decide +kernel) c3 ?_
      refine fs_iload_n (k := 2) (p := 33) (by decide +kernel) rfl rfl ?_
      have h := Option.some.inj h
      subst h
      exact fs_iret (by decide +kernel) rt_183
    · rw [if_neg c3] at h
      refine fs_icmp_ge_f (off := 23) (t := 32) (p := 12) (by decide +kernel) (by decide +kernel) rfl c3 ?_
      refine fs_iload_n (k := 2) (p := 13) (by decide +kernel) rfl rfl ?_
      refine fs_aload_n (k := 0) (p := 14) (by decide +kernel) rfl rfl ?_
      refine fs_gfr (idx := 36) (ci := 10) (j := 15) (p := 17) (by decide +kernel) rfl (by decide +kernel) fo_215 (fr_a215_15) ?_
      refine fs_iload_n (k := 3) (p := 18) (by decide +kernel) rfl rfl ?_
      refine fs_iload_n (k := 1) (p := 19) (by decide +kernel) rfl rfl ?_
      obtain ⟨q5, w4, h⟩ := fx_bd h
      refine fs_callS (idx := 214) (mj := 160) (na := 2) (mx := 2) (p := 22) (args := [.int x3, .int x1]) (rest := [.ref 224, .int x2]) (al2 := [some (.int x3), some (.int x1)]) (by decide +kernel) rfl (by decide +kernel) rfl rfl rfl rfl rfl rfl rfl (by omega) (fun d' hd' => fe_160 (by omega) w4) rfl ?_
      obtain ⟨v6, w7, h⟩ := fx_bd h
      refine fs_laload (p := 23) (by decide +kernel) rfl w7 ?_
      refine fs_l2i (p := 24) (by decide +kernel) rfl ?_
      refine fs_iadd (p := 25) (by decide +kernel) rfl ?_
      refine fs_istore_n (k := 2) (p := 26) (M := 4) (al' := [some (.ref 215), some (.int x1), some (.int (x2 + (v6).toInt32)), some (.int x3)]) (by decide +kernel) rfl mx_183 rfl rfl ?_
      refine fs_iinc (k := 3) (n := 1) (p := 29) (M := 4) (al' := [some (.ref 215), some (.int x1), some (.int (x2 + (v6).toInt32)), some (.int (x3 + (1 : Int32)))]) (by decide +kernel) rfl kc_1 mx_183 rfl rfl rfl ?_
      refine fs_goto (off := -25) (p := 4) (by decide +kernel) (by decide +kernel) ?_
      exact ih _ _ _ _ _ h
def fm_183 (x1 : Int32) (σ : fx_S) : Option (Int32 × fx_S) :=
  fm_183_4 100000 x1 (0 : Int32) (0 : Int32) σ
theorem fe_183 {d : Nat} (hd : 1 ≤ d) {x1 : Int32} {σ : fx_S} {q : Int32 × fx_S} (h : fm_183 x1 σ = some q) : fx_E none 183 d 0 [some (.ref 215), some (.int x1), none, none] [] σ (some (.int q.1)) q.2 := by
  unfold fm_183 at h
  refine fs_iconst (n := 0) (p := 1) (by decide +kernel) rfl kc_0 ?_
  refine fs_istore_n (k := 2) (p := 2) (M := 4) (al' := [some (.ref 215), some (.int x1), some (.int (0 : Int32)), none]) (by decide +kernel) rfl mx_183 rfl rfl ?_
  refine fs_iconst (n := 0) (p := 3) (by decide +kernel) rfl kc_0 ?_
  refine fs_istore_n (k := 3) (p := 4) (M := 4) (al' := [some (.ref 215), some (.int x1), some (.int (0 : Int32)), some (.int (0 : Int32))]) (by decide +kernel) rfl mx_183 rfl rfl ?_
  exact fe_183_4 hd 100000 _ _ _ _ _ h

/-! ZoneSharesModel.tableSum()I -/
theorem mx_184 : iv_mx 184 = 3 := by decide +kernel
theorem rt_184 : iv_rt 184 = some .int := by decide +kernel
def fm_184_4 : Nat → Int32 → Int32 → fx_S → Option (Int32 × fx_S)
  | 0, _, _, _ => none
  | n + 1, x1, x2, σ =>
    if (σ.1 215 17) ≤ x2 then (
      some (x1, σ)) else (
      (fm_182 x2 σ).bind fun q5 =>
      fm_184_4 n (x1 + q5.1) (x2 + (1 : Int32)) q5.2)
theorem fe_184_4 {d : Nat} (hd : 2 ≤ d) : ∀ (n : Nat) (x1 : Int32) (x2 : Int32) (σ : fx_S) (q : Int32 × fx_S), fm_184_4 n x1 x2 σ = some q → fx_E none 184 d 4 [some (.ref 215), some (.int x1), some (.int x2)] [] σ (some (.int q.1)) q.2 := by
  intro n
  induction n with
  | zero =>
    intro x1 x2 σ q  h
    rw [fm_184_4] at h
    exact fx_no h
  | succ n ih =>
    intro x1 x2 σ q  h
    rw [fm_184_4] at h
    refine fs_iload_n (k := 2) (p := 5) (by decide +kernel) rfl rfl ?_
    refine fs_aload_n (k := 0) (p := 6) (by decide +kernel) rfl rfl ?_
    refine fs_gfi (idx := 208) (ci := 10) (j := 17) (p := 9) (by decide +kernel) rfl (by decide +kernel) fo_215 ?_
    by_cases c3 : (σ.1 215 17) ≤ x2
    · rw [if_pos c3] at h
      refine fs_icmp_ge_t (off := 17) (t := 26) (by decide +kernel) (by decide +kernel) c3 ?_
      refine fs_iload_n (k := 1) (p := 27) (by decide +kernel) rfl rfl ?_
      have h := Option.some.inj h
      subst h
      exact fs_iret (by decide +kernel) rt_184
    · rw [if_neg c3] at h
      refine fs_icmp_ge_f (off := 17) (t := 26) (p := 12) (by decide +kernel) (by decide +kernel) rfl c3 ?_
      refine fs_iload_n (k := 1) (p := 13) (by decide +kernel) rfl rfl ?_
      refine fs_aload_n (k := 0) (p := 14) (by decide +kernel) rfl rfl ?_
      refine fs_iload_n (k := 2) (p := 15) (by decide +kernel) rfl rfl ?_
      obtain ⟨q5, w4, h⟩ := fx_bd h
      refine fs_callV (idx := 300) (mj := 182) (ci := 10) (na := 1) (mx := 4) (p := 18) (args := [.ref 215, .int x2]) (rest := [.int x1]) (al2 := [some (.ref 215), some (.int x2), none, none]) (by decide +kernel) rfl (by decide +kernel) fo_215 rfl rfl rfl rfl rfl rfl rfl (by omega) (fun d' hd' => fe_182 (by omega) w4) rfl ?_
      refine fs_iadd (p := 19) (by decide +kernel) rfl ?_
      refine fs_istore_n (k := 1) (p := 20) (M := 3) (al' := [some (.ref 215), some (.int (x1 + q5.1)), some (.int x2)]) (by decide +kernel) rfl mx_184 rfl rfl ?_
      refine fs_iinc (k := 2) (n := 1) (p := 23) (M := 3) (al' := [some (.ref 215), some (.int (x1 + q5.1)), some (.int (x2 + (1 : Int32)))]) (by decide +kernel) rfl kc_1 mx_184 rfl rfl rfl ?_
      refine fs_goto (off := -19) (p := 4) (by decide +kernel) (by decide +kernel) ?_
      exact ih _ _ _ _ h
def fm_184 (σ : fx_S) : Option (Int32 × fx_S) :=
  fm_184_4 100000 (0 : Int32) (0 : Int32) σ
theorem fe_184 {d : Nat} (hd : 2 ≤ d) {σ : fx_S} {q : Int32 × fx_S} (h : fm_184 σ = some q) : fx_E none 184 d 0 [some (.ref 215), none, none] [] σ (some (.int q.1)) q.2 := by
  unfold fm_184 at h
  refine fs_iconst (n := 0) (p := 1) (by decide +kernel) rfl kc_0 ?_
  refine fs_istore_n (k := 1) (p := 2) (M := 3) (al' := [some (.ref 215), some (.int (0 : Int32)), none]) (by decide +kernel) rfl mx_184 rfl rfl ?_
  refine fs_iconst (n := 0) (p := 3) (by decide +kernel) rfl kc_0 ?_
  refine fs_istore_n (k := 2) (p := 4) (M := 3) (al' := [some (.ref 215), some (.int (0 : Int32)), some (.int (0 : Int32))]) (by decide +kernel) rfl mx_184 rfl rfl ?_
  exact fe_184_4 hd 100000 _ _ _ _ h

/-! ZoneSharesModel.districtAt(I)I -/
theorem mx_186 : iv_mx 186 = 2 := by decide +kernel
theorem rt_186 : iv_rt 186 = some .int := by decide +kernel
def fm_186 (x1 : Int32) (σ : fx_S) : Option (Int32 × fx_S) :=
  if ¬ x1 = (8 : Int32) then (
    (fx_ld σ 216 ((44 : Int32) + x1)).bind fun v8 =>
    some (v8, σ)) else (
    some ((4 : Int32), σ))
theorem fe_186 {d : Nat} (hd : 0 ≤ d) {x1 : Int32} {σ : fx_S} {q : Int32 × fx_S} (h : fm_186 x1 σ = some q) : fx_E none 186 d 0 [some (.ref 215), some (.int x1)] [] σ (some (.int q.1)) q.2 := by
  unfold fm_186 at h
  refine fs_iload_n (k := 1) (p := 1) (by decide +kernel) rfl rfl ?_
  refine fs_bipush (n := 8) (p := 3) (by decide +kernel) rfl kb_8 ?_
  by_cases c7 : ¬ x1 = (8 : Int32)
  · rw [if_pos c7] at h
    refine fs_icmp_ne_t (off := 7) (t := 10) (by decide +kernel) (by decide +kernel) c7 ?_
    refine fs_aload_n (k := 0) (p := 11) (by decide +kernel) rfl rfl ?_
    refine fs_gfr (idx := 9) (ci := 10) (j := 0) (p := 14) (by decide +kernel) rfl (by decide +kernel) fo_215 (fr_a215_0) ?_
    refine fs_bipush (n := 44) (p := 16) (by decide +kernel) rfl kb_44 ?_
    refine fs_iload_n (k := 1) (p := 17) (by decide +kernel) rfl rfl ?_
    refine fs_iadd (p := 18) (by decide +kernel) rfl ?_
    obtain ⟨v8, w9, h⟩ := fx_bd h
    refine fs_iaload (p := 19) (by decide +kernel) rfl w9 ?_
    have h := Option.some.inj h
    subst h
    exact fs_iret (by decide +kernel) rt_186
  · rw [if_neg c7] at h
    refine fs_icmp_ne_f (off := 7) (t := 10) (p := 6) (by decide +kernel) (by decide +kernel) rfl c7 ?_
    refine fs_iconst (n := 4) (p := 7) (by decide +kernel) rfl kc_4 ?_
    refine fs_goto (off := 12) (p := 19) (by decide +kernel) (by decide +kernel) ?_
    have h := Option.some.inj h
    subst h
    exact fs_iret (by decide +kernel) rt_186

/-! ZoneSharesModel.laysCoarse(I)V -/
theorem mx_187 : iv_mx 187 = 5 := by decide +kernel
theorem rt_187 : iv_rt 187 = none := by decide +kernel
def fm_187_91 (k_7 : Int32 → fx_S → Option (fx_S)) : Nat → Int32 → Int32 → fx_S → Option (fx_S)
  | 0, _, _, _ => none
  | n + 1, x2, x4, σ =>
    if (4 : Int32) < x4 then (
      k_7 (x2 + (1 : Int32)) σ) else (
      (fm_160 x2 x4 σ).bind fun q4 =>
      (fx_ld q4.2 237 x4).bind fun v5 =>
      (fx_st q4.2 222 q4.1 v5).bind fun t8 =>
      fm_187_91 k_7 n x2 (x4 + (1 : Int32)) t8)
theorem fe_187_91 {d : Nat} (hd : 6 ≤ d) {k_7 : Int32 → fx_S → Option (fx_S)} (hk_7 : ∀ (x2 : Int32) (o1 : Option Value) (o3 : Option Value) (o4 : Option Value) (σ : fx_S) (q : fx_S), k_7 x2 σ = some q → fx_E none 187 d 7 [some (.ref 215), o1, some (.int x2), o3, o4] [] σ none q) : ∀ (n : Nat) (x2 : Int32) (x4 : Int32) (o1 : Option Value) (σ : fx_S) (q : fx_S), fm_187_91 k_7 n x2 x4 σ = some q → fx_E none 187 d 91 [some (.ref 215), o1, some (.int x2), some (.ref 237), some (.int x4)] [] σ none q := by
  intro n
  induction n with
  | zero =>
    intro x2 x4 o1 σ q  h
    rw [fm_187_91] at h
    exact fx_no h
  | succ n ih =>
    intro x2 x4 o1 σ q  h
    rw [fm_187_91] at h
    refine fs_iload (k := 4) (p := 93) (by decide +kernel) rfl rfl ?_
    refine fs_iconst (n := 4) (p := 94) (by decide +kernel) rfl kc_4 ?_
    by_cases c2 : (4 : Int32) < x4
    · rw [if_pos c2] at h
      refine fs_icmp_gt_t (off := 24) (t := 118) (by decide +kernel) (by decide +kernel) c2 ?_
      refine fs_iinc (k := 2) (n := 1) (p := 121) (M := 5) (al' := [some (.ref 215), (fx_kl o1), some (.int (x2 + (1 : Int32))), some (.ref 237), some (.int x4)]) (by decide +kernel) rfl kc_1 mx_187 rfl rfl rfl ?_
      refine fs_goto (off := -114) (p := 7) (by decide +kernel) (by decide +kernel) ?_
      exact hk_7 _ _ _ _ _ _ h
    · rw [if_neg c2] at h
      refine fs_icmp_gt_f (off := 24) (t := 118) (p := 97) (by decide +kernel) (by decide +kernel) rfl c2 ?_
      refine fs_aload_n (k := 0) (p := 98) (by decide +kernel) rfl rfl ?_
      refine fs_gfr (idx := 30) (ci := 10) (j := 13) (p := 101) (by decide +kernel) rfl (by decide +kernel) fo_215 (fr_a215_13) ?_
      refine fs_iload_n (k := 2) (p := 102) (by decide +kernel) rfl rfl ?_
      refine fs_iload (k := 4) (p := 104) (by decide +kernel) rfl rfl ?_
      obtain ⟨q4, w3, h⟩ := fx_bd h
      refine fs_callS (idx := 214) (mj := 160) (na := 2) (mx := 2) (p := 107) (args := [.int x2, .int x4]) (rest := [.ref 222]) (al2 := [some (.int x2), some (.int x4)]) (by decide +kernel) rfl (by decide +kernel) rfl rfl rfl rfl rfl rfl rfl (by omega) (fun d' hd' => fe_160 (by omega) w3) rfl ?_
      refine fs_aload_n (k := 3) (p := 108) (by decide +kernel) rfl rfl ?_
      refine fs_iload (k := 4) (p := 110) (by decide +kernel) rfl rfl ?_
      obtain ⟨v5, w6, h⟩ := fx_bd h
      refine fs_iaload (p := 111) (by decide +kernel) rfl w6 ?_
      obtain ⟨t8, w9, h⟩ := fx_bd h
      refine fs_iastore (p := 112) (by decide +kernel) rfl w9 ?_
      refine fs_iinc (k := 4) (n := 1) (p := 115) (M := 5) (al' := [some (.ref 215), o1, some (.int x2), some (.ref 237), some (.int (x4 + (1 : Int32)))]) (by decide +kernel) rfl kc_1 mx_187 rfl rfl rfl ?_
      refine fs_goto (off := -24) (p := 91) (by decide +kernel) (by decide +kernel) ?_
      exact ih _ _ _ _ _ h
def fm_187_41 (k_7 : Int32 → fx_S → Option (fx_S)) : Nat → Int32 → Int32 → fx_S → Option (fx_S)
  | 0, _, _, _ => none
  | n + 1, x2, x4, σ =>
    if (9 : Int32) ≤ x4 then (
      fm_187_91 k_7 100000 x2 (0 : Int32) σ) else (
      (fm_186 x4 σ).bind fun q4 =>
      (fx_ld q4.2 237 q4.1).bind fun v5 =>
      (fm_160 x2 x4 q4.2).bind fun q9 =>
      (fx_ld q9.2 222 q9.1).bind fun v10 =>
      (fx_st q9.2 237 q4.1 (v5 + v10)).bind fun t13 =>
      (fm_160 x2 x4 t13).bind fun q16 =>
      (fx_st q16.2 222 q16.1 (0 : Int32)).bind fun t17 =>
      fm_187_41 k_7 n x2 (x4 + (1 : Int32)) t17)
theorem fe_187_41 {d : Nat} (hd : 6 ≤ d) {k_7 : Int32 → fx_S → Option (fx_S)} (hk_7 : ∀ (x2 : Int32) (o1 : Option Value) (o3 : Option Value) (o4 : Option Value) (σ : fx_S) (q : fx_S), k_7 x2 σ = some q → fx_E none 187 d 7 [some (.ref 215), o1, some (.int x2), o3, o4] [] σ none q) : ∀ (n : Nat) (x2 : Int32) (x4 : Int32) (o1 : Option Value) (σ : fx_S) (q : fx_S), fm_187_41 k_7 n x2 x4 σ = some q → fx_E none 187 d 41 [some (.ref 215), o1, some (.int x2), some (.ref 237), some (.int x4)] [] σ none q := by
  intro n
  induction n with
  | zero =>
    intro x2 x4 o1 σ q  h
    rw [fm_187_41] at h
    exact fx_no h
  | succ n ih =>
    intro x2 x4 o1 σ q  h
    rw [fm_187_41] at h
    refine fs_iload (k := 4) (p := 43) (by decide +kernel) rfl rfl ?_
    refine fs_bipush (n := 9) (p := 45) (by decide +kernel) rfl kb_9 ?_
    by_cases c2 : (9 : Int32) ≤ x4
    · rw [if_pos c2] at h
      refine fs_icmp_ge_t (off := 43) (t := 88) (by decide +kernel) (by decide +kernel) c2 ?_
      refine fs_iconst (n := 0) (p := 89) (by decide +kernel) rfl kc_0 ?_
      refine fs_istore (k := 4) (p := 91) (M := 5) (al' := [some (.ref 215), o1, some (.int x2), some (.ref 237), some (.int (0 : Int32))]) (by decide +kernel) rfl mx_187 rfl rfl ?_
      exact fe_187_91 hd hk_7 100000 _ _ _ _ _ h
    · rw [if_neg c2] at h
      refine fs_icmp_ge_f (off := 43) (t := 88) (p := 48) (by decide +kernel) (by decide +kernel) rfl c2 ?_
      refine fs_aload_n (k := 3) (p := 49) (by decide +kernel) rfl rfl ?_
      refine fs_aload_n (k := 0) (p := 50) (by decide +kernel) rfl rfl ?_
      refine fs_iload (k := 4) (p := 52) (by decide +kernel) rfl rfl ?_
      obtain ⟨q4, w3, h⟩ := fx_bd h
      refine fs_callV (idx := 324) (mj := 186) (ci := 10) (na := 1) (mx := 2) (p := 55) (args := [.ref 215, .int x4]) (rest := [.ref 237]) (al2 := [some (.ref 215), some (.int x4)]) (by decide +kernel) rfl (by decide +kernel) fo_215 rfl rfl rfl rfl rfl rfl rfl (by omega) (fun d' hd' => fe_186 (by omega) w3) rfl ?_
      refine fs_dup2 (p := 56) (by decide +kernel) rfl rfl rfl ?_
      obtain ⟨v5, w6, h⟩ := fx_bd h
      refine fs_iaload (p := 57) (by decide +kernel) rfl w6 ?_
      refine fs_aload_n (k := 0) (p := 58) (by decide +kernel) rfl rfl ?_
      refine fs_gfr (idx := 30) (ci := 10) (j := 13) (p := 61) (by decide +kernel) rfl (by decide +kernel) fo_215 (fr_a215_13) ?_
      refine fs_iload_n (k := 2) (p := 62) (by decide +kernel) rfl rfl ?_
      refine fs_iload (k := 4) (p := 64) (by decide +kernel) rfl rfl ?_
      obtain ⟨q9, w8, h⟩ := fx_bd h
      refine fs_callS (idx := 214) (mj := 160) (na := 2) (mx := 2) (p := 67) (args := [.int x2, .int x4]) (rest := [.ref 222, .int v5, .int q4.1, .ref 237]) (al2 := [some (.int x2), some (.int x4)]) (by decide +kernel) rfl (by decide +kernel) rfl rfl rfl rfl rfl rfl rfl (by omega) (fun d' hd' => fe_160 (by omega) w8) rfl ?_
      obtain ⟨v10, w11, h⟩ := fx_bd h
      refine fs_iaload (p := 68) (by decide +kernel) rfl w11 ?_
      refine fs_iadd (p := 69) (by decide +kernel) rfl ?_
      obtain ⟨t13, w14, h⟩ := fx_bd h
      refine fs_iastore (p := 70) (by decide +kernel) rfl w14 ?_
      refine fs_aload_n (k := 0) (p := 71) (by decide +kernel) rfl rfl ?_
      refine fs_gfr (idx := 30) (ci := 10) (j := 13) (p := 74) (by decide +kernel) rfl (by decide +kernel) fo_215 (fr_a215_13) ?_
      refine fs_iload_n (k := 2) (p := 75) (by decide +kernel) rfl rfl ?_
      refine fs_iload (k := 4) (p := 77) (by decide +kernel) rfl rfl ?_
      obtain ⟨q16, w15, h⟩ := fx_bd h
      refine fs_callS (idx := 214) (mj := 160) (na := 2) (mx := 2) (p := 80) (args := [.int x2, .int x4]) (rest := [.ref 222]) (al2 := [some (.int x2), some (.int x4)]) (by decide +kernel) rfl (by decide +kernel) rfl rfl rfl rfl rfl rfl rfl (by omega) (fun d' hd' => fe_160 (by omega) w15) rfl ?_
      refine fs_iconst (n := 0) (p := 81) (by decide +kernel) rfl kc_0 ?_
      obtain ⟨t17, w18, h⟩ := fx_bd h
      refine fs_iastore (p := 82) (by decide +kernel) rfl w18 ?_
      refine fs_iinc (k := 4) (n := 1) (p := 85) (M := 5) (al' := [some (.ref 215), o1, some (.int x2), some (.ref 237), some (.int (x4 + (1 : Int32)))]) (by decide +kernel) rfl kc_1 mx_187 rfl rfl rfl ?_
      refine fs_goto (off := -44) (p := 41) (by decide +kernel) (by decide +kernel) ?_
      exact ih _ _ _ _ _ h
def fm_187_21 (k_7 : Int32 → fx_S → Option (fx_S)) : Nat → Int32 → Int32 → fx_S → Option (fx_S)
  | 0, _, _, _ => none
  | n + 1, x2, x4, σ =>
    if (4 : Int32) < x4 then (
      fm_187_41 k_7 100000 x2 (0 : Int32) σ) else (
      (fx_st σ 237 x4 (0 : Int32)).bind fun t3 =>
      fm_187_21 k_7 n x2 (x4 + (1 : Int32)) t3)
theorem fe_187_21 {d : Nat} (hd : 6 ≤ d) {k_7 : Int32 → fx_S → Option (fx_S)} (hk_7 : ∀ (x2 : Int32) (o1 : Option Value) (o3 : Option Value) (o4 : Option Value) (σ : fx_S) (q : fx_S), k_7 x2 σ = some q → fx_E none 187 d 7 [some (.ref 215), o1, some (.int x2), o3, o4] [] σ none q) : ∀ (n : Nat) (x2 : Int32) (x4 : Int32) (o1 : Option Value) (σ : fx_S) (q : fx_S), fm_187_21 k_7 n x2 x4 σ = some q → fx_E none 187 d 21 [some (.ref 215), o1, some (.int x2), some (.ref 237), some (.int x4)] [] σ none q := by
  intro n
  induction n with
  | zero =>
    intro x2 x4 o1 σ q  h
    rw [fm_187_21] at h
    exact fx_no h
  | succ n ih =>
    intro x2 x4 o1 σ q  h
    rw [fm_187_21] at h
    refine fs_iload (k := 4) (p := 23) (by decide +kernel) rfl rfl ?_
    refine fs_iconst (n := 4) (p := 24) (by decide +kernel) rfl kc_4 ?_
    by_cases c2 : (4 : Int32) < x4
    · rw [if_pos c2] at h
      refine fs_icmp_gt_t (off := 14) (t := 38) (by decide +kernel) (by decide +kernel) c2 ?_
      refine fs_iconst (n := 0) (p := 39) (by decide +kernel) rfl kc_0 ?_
      refine fs_istore (k := 4) (p := 41) (M := 5) (al' := [some (.ref 215), o1, some (.int x2), some (.ref 237), some (.int (0 : Int32))]) (by decide +kernel) rfl mx_187 rfl rfl ?_
      exact fe_187_41 hd hk_7 100000 _ _ _ _ _ h
    · rw [if_neg c2] at h
      refine fs_icmp_gt_f (off := 14) (t := 38) (p := 27) (by decide +kernel) (by decide +kernel) rfl c2 ?_
      refine fs_aload_n (k := 3) (p := 28) (by decide +kernel) rfl rfl ?_
      refine fs_iload (k := 4) (p := 30) (by decide +kernel) rfl rfl ?_
      refine fs_iconst (n := 0) (p := 31) (by decide +kernel) rfl kc_0 ?_
      obtain ⟨t3, w4, h⟩ := fx_bd h
      refine fs_iastore (p := 32) (by decide +kernel) rfl w4 ?_
      refine fs_iinc (k := 4) (n := 1) (p := 35) (M := 5) (al' := [some (.ref 215), o1, some (.int x2), some (.ref 237), some (.int (x4 + (1 : Int32)))]) (by decide +kernel) rfl kc_1 mx_187 rfl rfl rfl ?_
      refine fs_goto (off := -14) (p := 21) (by decide +kernel) (by decide +kernel) ?_
      exact ih _ _ _ _ _ h
def fm_187_7 : Nat → Int32 → fx_S → Option (fx_S)
  | 0, _, _ => none
  | n + 1, x2, σ =>
    if (8 : Int32) ≤ x2 then (
      some (fx_w1 σ 215 18 (5 : Int32))) else (
      fm_187_21 (fm_187_7 n) 100000 x2 (0 : Int32) σ)
theorem fe_187_7 {d : Nat} (hd : 6 ≤ d) : ∀ (n : Nat) (x2 : Int32) (o1 : Option Value) (o3 : Option Value) (o4 : Option Value) (σ : fx_S) (q : fx_S), fm_187_7 n x2 σ = some q → fx_E none 187 d 7 [some (.ref 215), o1, some (.int x2), o3, o4] [] σ none q := by
  intro n
  induction n with
  | zero =>
    intro x2 o1 o3 o4 σ q  h
    rw [fm_187_7] at h
    exact fx_no h
  | succ n ih =>
    intro x2 o1 o3 o4 σ q  h
    rw [fm_187_7] at h
    refine fs_iload_n (k := 2) (p := 8) (by decide +kernel) rfl rfl ?_
    refine fs_bipush (n := 8) (p := 10) (by decide +kernel) rfl kb_8 ?_
    by_cases c2 : (8 : Int32) ≤ x2
    · rw [if_pos c2] at h
      refine fs_icmp_ge_t (off := 114) (t := 124) (by decide +kernel) (by decide +kernel) c2 ?_
      refine fs_aload_n (k := 0) (p := 125) (by decide +kernel) rfl rfl ?_
      refine fs_iconst (n := 5) (p := 126) (by decide +kernel) rfl kc_5 ?_
      refine fs_pfi (idx := 211) (ci := 10) (j := 18) (p := 129) (by decide +kernel) rfl (by decide +kernel) (by decide +kernel) fo_215 (fx_oki _ (by decide +kernel)) ?_
      have h := Option.some.inj h
      subst h
      exact fs_ret (by decide +kernel) rt_187
    · rw [if_neg c2] at h
      refine fs_icmp_ge_f (off := 114) (t := 124) (p := 13) (by decide +kernel) (by decide +kernel) rfl c2 ?_
      refine fs_aload_n (k := 0) (p := 14) (by decide +kernel) rfl rfl ?_
      refine fs_gfr (idx := 76) (ci := 10) (j := 32) (p := 17) (by decide +kernel) rfl (by decide +kernel) fo_215 (fr_a215_32) ?_
      refine fs_astore_n (k := 3) (p := 18) (M := 5) (al' := [some (.ref 215), o1, some (.int x2), some (.ref 237), o4]) (by decide +kernel) rfl mx_187 rfl rfl ?_
      refine fs_iconst (n := 0) (p := 19) (by decide +kernel) rfl kc_0 ?_
      refine fs_istore (k := 4) (p := 21) (M := 5) (al' := [some (.ref 215), o1, some (.int x2), some (.ref 237), some (.int (0 : Int32))]) (by decide +kernel) rfl mx_187 rfl rfl ?_
      exact fe_187_21 hd ih 100000 _ _ _ _ _ h
def fm_187 (x1 : Int32) (σ : fx_S) : Option (fx_S) :=
  (fm_181 x1 σ).bind fun q42 =>
  fm_187_7 100000 (0 : Int32) q42
theorem fe_187 {d : Nat} (hd : 6 ≤ d) {x1 : Int32} {σ : fx_S} {q : fx_S} (h : fm_187 x1 σ = some q) : fx_E none 187 d 0 [some (.ref 215), some (.int x1), none, none, none] [] σ none q := by
  unfold fm_187 at h
  refine fs_aload_n (k := 0) (p := 1) (by decide +kernel) rfl rfl ?_
  refine fs_iload_n (k := 1) (p := 2) (by decide +kernel) rfl rfl ?_
  obtain ⟨q42, w41, h⟩ := fx_bd h
  refine fs_callV (idx := 312) (mj := 181) (ci := 10) (na := 1) (mx := 5) (p := 5) (args := [.ref 215, .int x1]) (rest := []) (al2 := [some (.ref 215), some (.int x1), none, none, none]) (by decide +kernel) rfl (by decide +kernel) fo_215 rfl rfl rfl rfl rfl rfl rfl (by omega) (fun d' hd' => fe_181 (by omega) w41) rfl ?_
  refine fs_iconst (n := 0) (p := 6) (by decide +kernel) rfl kc_0 ?_
  refine fs_istore_n (k := 2) (p := 7) (M := 5) (al' := [some (.ref 215), some (.int x1), some (.int (0 : Int32)), none, none]) (by decide +kernel) rfl mx_187 rfl rfl ?_
  exact fe_187_7 hd 100000 _ _ _ _ _ _ h

/-! ZoneSharesModel.laysWay(IIZ)V -/
theorem mx_190 : iv_mx 190 = 5 := by decide +kernel
theorem rt_190 : iv_rt 190 = none := by decide +kernel
def fm_190_43 (k_3 : Int32 → Int32 → Int32 → Int32 → fx_S → Option (fx_S)) (x1 : Int32) (x2 : Int32) (x3 : Int32) (x4 : Int32) (s1 : Int32) (s2 : Int32) (σ : fx_S) : Option (fx_S) :=
  (fx_st σ 222 s1 s2).bind fun t1 =>
  k_3 x1 x2 x3 (x4 + (1 : Int32)) t1
theorem fe_190_43 {d : Nat} (hd : 3 ≤ d) {k_3 : Int32 → Int32 → Int32 → Int32 → fx_S → Option (fx_S)} (hk_3 : ∀ (x1 : Int32) (x2 : Int32) (x3 : Int32) (x4 : Int32) (σ : fx_S) (q : fx_S), k_3 x1 x2 x3 x4 σ = some q → fx_E none 190 d 3 [some (.ref 215), some (.int x1), some (.int x2), some (.int x3), some (.int x4)] [] σ none q) (x1 : Int32) (x2 : Int32) (x3 : Int32) (x4 : Int32) (s1 : Int32) (s2 : Int32) (σ : fx_S) (q : fx_S) (h : fm_190_43 k_3  x1 x2 x3 x4 s1 s2 σ = some q) : fx_E none 190 d 43 [some (.ref 215), some (.int x1), some (.int x2), some (.int x3), some (.int x4)] [.int s2, .int s1, .ref 222] σ none q := by
  unfold fm_190_43 at h
  obtain ⟨t1, w2, h⟩ := fx_bd h
  refine fs_iastore (p := 44) (by decide +kernel) rfl w2 ?_
  refine fs_iinc (k := 4) (n := 1) (p := 47) (M := 5) (al' := [some (.ref 215), some (.int x1), some (.int x2), some (.int x3), some (.int (x4 + (1 : Int32)))]) (by decide +kernel) rfl kc_1 mx_190 rfl rfl rfl ?_
  refine fs_goto (off := -44) (p := 3) (by decide +kernel) (by decide +kernel) ?_
  exact hk_3 _ _ _ _ _ _ h
def fm_190_3 : Nat → Int32 → Int32 → Int32 → Int32 → fx_S → Option (fx_S)
  | 0, _, _, _, _, _ => none
  | n + 1, x1, x2, x3, x4, σ =>
    if (8 : Int32) ≤ x4 then (
      some σ) else (
      (fm_160 x2 x4 σ).bind fun q4 =>
      (fm_186 x4 q4.2).bind fun q6 =>
      if ¬ q6.1 = x2 then (
        fm_190_43 (fm_190_3 n) x1 x2 x3 x4 q4.1 (0 : Int32) q6.2) else (
        (fm_157 x1 (-1 : Int32) x4 x3 q6.2).bind fun q11 =>
        fm_190_43 (fm_190_3 n) x1 x2 x3 x4 q4.1 q11.1 q11.2))
theorem fe_190_3 {d : Nat} (hd : 3 ≤ d) : ∀ (n : Nat) (x1 : Int32) (x2 : Int32) (x3 : Int32) (x4 : Int32) (σ : fx_S) (q : fx_S), fm_190_3 n x1 x2 x3 x4 σ = some q → fx_E none 190 d 3 [some (.ref 215), some (.int x1), some (.int x2), some (.int x3), some (.int x4)] [] σ none q := by
  intro n
  induction n with
  | zero =>
    intro x1 x2 x3 x4 σ q  h
    rw [fm_190_3] at h
    exact fx_no h
  | succ n ih =>
    intro x1 x2 x3 x4 σ q  h
    rw [fm_190_3] at h
    refine fs_iload (k := 4) (p := 5) (by decide +kernel) rfl rfl ?_
    refine fs_bipush (n := 8) (p := 7) (by decide +kernel) rfl kb_8 ?_
    by_cases c2 : (8 : Int32) ≤ x4
    · rw [if_pos c2] at h
      refine fs_icmp_ge_t (off := 43) (t := 50) (by decide +kernel) (by decide +kernel) c2 ?_
      have h := Option.some.inj h
      subst h
      exact fs_ret (by decide +kernel) rt_190
    · rw [if_neg c2] at h
      refine fs_icmp_ge_f (off := 43) (t := 50) (p := 10) (by decide +kernel) (by decide +kernel) rfl c2 ?_
      refine fs_aload_n (k := 0) (p := 11) (by decide +kernel) rfl rfl ?_
      refine fs_gfr (idx := 30) (ci := 10) (j := 13) (p := 14) (by decide +kernel) rfl (by decide +kernel) fo_215 (fr_a215_13) ?_
      refine fs_iload_n (k := 2) (p := 15) (by decide +kernel) rfl rfl ?_
      refine fs_iload (k := 4) (p := 17) (by decide +kernel) rfl rfl ?_
      obtain ⟨q4, w3, h⟩ := fx_bd h
      refine fs_callS (idx := 214) (mj := 160) (na := 2) (mx := 2) (p := 20) (args := [.int x2, .int x4]) (rest := [.ref 222]) (al2 := [some (.int x2), some (.int x4)]) (by decide +kernel) rfl (by decide +kernel) rfl rfl rfl rfl rfl rfl rfl (by omega) (fun d' hd' => fe_160 (by omega) w3) rfl ?_
      refine fs_aload_n (k := 0) (p := 21) (by decide +kernel) rfl rfl ?_
      refine fs_iload (k := 4) (p := 23) (by decide +kernel) rfl rfl ?_
      obtain ⟨q6, w5, h⟩ := fx_bd h
      refine fs_callV (idx := 324) (mj := 186) (ci := 10) (na := 1) (mx := 2) (p := 26) (args := [.ref 215, .int x4]) (rest := [.int q4.1, .ref 222]) (al2 := [some (.ref 215), some (.int x4)]) (by decide +kernel) rfl (by decide +kernel) fo_215 rfl rfl rfl rfl rfl rfl rfl (by omega) (fun d' hd' => fe_186 (by omega) w5) rfl ?_
      refine fs_iload_n (k := 2) (p := 27) (by decide +kernel) rfl rfl ?_
      by_cases c9 : ¬ q6.1 = x2
      · rw [if_pos c9] at h
        refine fs_icmp_ne_t (off := 15) (t := 42) (by decide +kernel) (by decide +kernel) c9 ?_
        refine fs_iconst (n := 0) (p := 43) (by decide +kernel) rfl kc_0 ?_
        exact fe_190_43 hd ih _ _ _ _ _ _ _ _ h
      · rw [if_neg c9] at h
        refine fs_icmp_ne_f (off := 15) (t := 42) (p := 30) (by decide +kernel) (by decide +kernel) rfl c9 ?_
        refine fs_aload_n (k := 0) (p := 31) (by decide +kernel) rfl rfl ?_
        refine fs_iload_n (k := 1) (p := 32) (by decide +kernel) rfl rfl ?_
        refine fs_iconst (n := -1) (p := 33) (by decide +kernel) rfl kc_m1 ?_
        refine fs_iload (k := 4) (p := 35) (by decide +kernel) rfl rfl ?_
        refine fs_iload_n (k := 3) (p := 36) (by decide +kernel) rfl rfl ?_
        obtain ⟨q11, w10, h⟩ := fx_bd h
        refine fs_callV (idx := 293) (mj := 157) (ci := 10) (na := 4) (mx := 8) (p := 39) (args := [.ref 215, .int x1, .int (-1 : Int32), .int x4, .int x3]) (rest := [.int q4.1, .ref 222]) (al2 := [some (.ref 215), some (.int x1), some (.int (-1 : Int32)), some (.int x4), some (.int x3), none, none, none]) (by decide +kernel) rfl (by decide +kernel) fo_215 rfl rfl rfl rfl rfl rfl rfl (by omega) (fun d' hd' => fe_157 (by omega) w10) rfl ?_
        refine fs_goto (off := 4) (p := 43) (by decide +kernel) (by decide +kernel) ?_
        exact fe_190_43 hd ih _ _ _ _ _ _ _ _ h
def fm_190 (x1 : Int32) (x2 : Int32) (x3 : Int32) (σ : fx_S) : Option (fx_S) :=
  fm_190_3 100000 x1 x2 x3 (0 : Int32) σ
theorem fe_190 {d : Nat} (hd : 3 ≤ d) {x1 : Int32} {x2 : Int32} {x3 : Int32} {σ : fx_S} {q : fx_S} (h : fm_190 x1 x2 x3 σ = some q) : fx_E none 190 d 0 [some (.ref 215), some (.int x1), some (.int x2), some (.int x3), none] [] σ none q := by
  unfold fm_190 at h
  refine fs_iconst (n := 0) (p := 1) (by decide +kernel) rfl kc_0 ?_
  refine fs_istore (k := 4) (p := 3) (M := 5) (al' := [some (.ref 215), some (.int x1), some (.int x2), some (.int x3), some (.int (0 : Int32))]) (by decide +kernel) rfl mx_190 rfl rfl ?_
  exact fe_190_3 hd 100000 _ _ _ _ _ _ h

/-! ZoneSharesModel.lowest(JJI)J -/
theorem mx_194 : iv_mx 194 = 7 := by decide +kernel
theorem rt_194 : iv_rt 194 = some .long := by decide +kernel
def fm_194 (x0 : Int64) (x2 : Int64) (x4 : Int32) (σ : fx_S) : Option (Int64 × fx_S) :=
  (fm_164 x0 x2 σ).bind fun q10 =>
  if ¬ x4 = 0 then (
    if ¬ q10.1 = 0 then (
    some ((x2 / q10.1), q10.2)) else none) else (
    if ¬ q10.1 = 0 then (
    some ((x0 / q10.1), q10.2)) else none)
theorem fe_194 {d : Nat} (hd : 1 ≤ d) {x0 : Int64} {x2 : Int64} {x4 : Int32} {σ : fx_S} {q : Int64 × fx_S} (h : fm_194 x0 x2 x4 σ = some q) : fx_E none 194 d 0 [some (.long x0), none, some (.long x2), none, some (.int x4), none, none] [] σ (some (.long q.1)) q.2 := by
  unfold fm_194 at h
  refine fs_lload_n (k := 0) (p := 1) (by decide +kernel) rfl rfl ?_
  refine fs_lload_n (k := 2) (p := 2) (by decide +kernel) rfl rfl ?_
  obtain ⟨q10, w9, h⟩ := fx_bd h
  refine fs_callS (idx := 225) (mj := 164) (na := 2) (mx := 10) (p := 5) (args := [.long x0, .long x2]) (rest := []) (al2 := [some (.long x0), none, some (.long x2), none, none, none, none, none, none, none]) (by decide +kernel) rfl (by decide +kernel) rfl rfl rfl rfl rfl rfl rfl (by omega) (fun d' hd' => fe_164 (by omega) w9) rfl ?_
  refine fs_lstore (k := 5) (p := 7) (M := 7) (al' := [some (.long x0), none, some (.long x2), none, some (.int x4), some (.long q10.1), none]) (by decide +kernel) rfl mx_194 rfl rfl ?_
  refine fs_iload (k := 4) (p := 9) (by decide +kernel) rfl rfl ?_
  by_cases c12 : ¬ x4 = 0
  · rw [if_pos c12] at h
    refine fs_if_ne_t (off := 10) (t := 19) (by decide +kernel) (by decide +kernel) c12 ?_
    refine fs_lload_n (k := 2) (p := 20) (by decide +kernel) rfl rfl ?_
    refine fs_lload (k := 5) (p := 22) (by decide +kernel) rfl rfl ?_
    obtain ⟨z14, h⟩ := fx_gd h
    refine fs_ldiv (p := 23) (by decide +kernel) rfl z14 ?_
    have h := Option.some.inj h
    subst h
    exact fs_lret (by decide +kernel) rt_194
  · rw [if_neg c12] at h
    refine fs_if_ne_f (off := 10) (t := 19) (p := 12) (by decide +kernel) (by decide +kernel) rfl c12 ?_
    refine fs_lload_n (k := 0) (p := 13) (by decide +kernel) rfl rfl ?_
    refine fs_lload (k := 5) (p := 15) (by decide +kernel) rfl rfl ?_
    obtain ⟨z16, h⟩ := fx_gd h
    refine fs_ldiv (p := 16) (by decide +kernel) rfl z16 ?_
    refine fs_goto (off := 7) (p := 23) (by decide +kernel) (by decide +kernel) ?_
    have h := Option.some.inj h
    subst h
    exact fs_lret (by decide +kernel) rt_194

/-! ZoneSharesModel.share(IIII)I -/
theorem mx_195 : iv_mx 195 = 6 := by decide +kernel
theorem rt_195 : iv_rt 195 = some .int := by decide +kernel
def fm_195 (x1 : Int32) (x2 : Int32) (x3 : Int32) (x4 : Int32) (σ : fx_S) : Option (Int32 × fx_S) :=
  (fm_150 σ).bind fun q33 =>
  if (fx_b q33.1) = 0 then (
    some ((-1 : Int32), q33.2)) else (
    (fm_148 x1 q33.2).bind fun q36 =>
    if (fx_b q36.1) = 0 then (
      some ((-1 : Int32), q36.2)) else (
      (fm_130 (x2).toInt64 (0 : Int64) (7 : Int64) q36.2).bind fun q40 =>
      if (fx_b q40.1) = 0 then (
        some ((-1 : Int32), q40.2)) else (
        (fm_153 (0 : Int32) x2 q40.2).bind fun q43 =>
        if (fx_b q43.1) = 0 then (
          some ((-1 : Int32), q43.2)) else (
          (fm_130 (x3).toInt64 (0 : Int64) (8 : Int64) q43.2).bind fun q47 =>
          if (fx_b q47.1) = 0 then (
            some ((-1 : Int32), q47.2)) else (
            (fm_130 (x4).toInt64 (0 : Int64) (1 : Int64) q47.2).bind fun q51 =>
            if ¬ (fx_b q51.1) = 0 then (
              (fm_180 x1 x2 q51.2).bind fun q54 =>
              (fm_157 x1 x2 x3 (fx_b q54.1) q54.2).bind fun q56 =>
              (fm_157 x1 x2 (-1 : Int32) (fx_b q54.1) q56.2).bind fun q59 =>
              (fm_194 (q56.1).toInt64 (q59.1).toInt64 x4 q59.2).bind fun q62 =>
              some ((q62.1).toInt32, q62.2)) else (
              some ((-1 : Int32), q51.2)))))))
theorem fe_195 {d : Nat} (hd : 4 ≤ d) {x1 : Int32} {x2 : Int32} {x3 : Int32} {x4 : Int32} {σ : fx_S} {q : Int32 × fx_S} (h : fm_195 x1 x2 x3 x4 σ = some q) : fx_E none 195 d 0 [some (.ref 215), some (.int x1), some (.int x2), some (.int x3), some (.int x4), none] [] σ (some (.int q.1)) q.2 := by
  unfold fm_195 at h
  refine fs_aload_n (k := 0) (p := 1) (by decide +kernel) rfl rfl ?_
  obtain ⟨q33, w32, h⟩ := fx_bd h
  refine fs_callV (idx := 303) (mj := 150) (ci := 10) (na := 0) (mx := 1) (p := 4) (args := [.ref 215]) (rest := []) (al2 := [some (.ref 215)]) (by decide +kernel) rfl (by decide +kernel) fo_215 rfl rfl rfl rfl rfl rfl rfl (by omega) (fun d' hd' => fe_150 (by omega) w32) rfl ?_
  by_cases c34 : (fx_b q33.1) = 0
  · rw [if_pos c34] at h
    refine fs_if_eq_t (off := 54) (t := 58) (by decide +kernel) (by decide +kernel) c34 ?_
    refine fs_iconst (n := -1) (p := 59) (by decide +kernel) rfl kc_m1 ?_
    have h := Option.some.inj h
    subst h
    exact fs_iret (by decide +kernel) rt_195
  · rw [if_neg c34] at h
    refine fs_if_eq_f (off := 54) (t := 58) (p := 7) (by decide +kernel) (by decide +kernel) rfl c34 ?_
    refine fs_iload_n (k := 1) (p := 8) (by decide +kernel) rfl rfl ?_
    obtain ⟨q36, w35, h⟩ := fx_bd h
    refine fs_callS (idx := 190) (mj := 148) (na := 1) (mx := 1) (p := 11) (args := [.int x1]) (rest := []) (al2 := [some (.int x1)]) (by decide +kernel) rfl (by decide +kernel) rfl rfl rfl rfl rfl rfl rfl (by omega) (fun d' hd' => fe_148 (by omega) w35) rfl ?_
    by_cases c37 : (fx_b q36.1) = 0
    · rw [if_pos c37] at h
      refine fs_if_eq_t (off := 47) (t := 58) (by decide +kernel) (by decide +kernel) c37 ?_
      refine fs_iconst (n := -1) (p := 59) (by decide +kernel) rfl kc_m1 ?_
      have h := Option.some.inj h
      subst h
      exact fs_iret (by decide +kernel) rt_195
    · rw [if_neg c37] at h
      refine fs_if_eq_f (off := 47) (t := 58) (p := 14) (by decide +kernel) (by decide +kernel) rfl c37 ?_
      refine fs_iload_n (k := 2) (p := 15) (by decide +kernel) rfl rfl ?_
      refine fs_i2l (p := 16) (by decide +kernel) rfl ?_
      refine fs_lconst (n := 0) (p := 17) (by decide +kernel) rfl kl_0 ?_
      refine fs_ldc2 (idx := 308) (p := 20) (x := 7) (by decide +kernel) rfl (by decide +kernel) ?_
      obtain ⟨q40, w39, h⟩ := fx_bd h
      refine fs_callS (idx := 128) (mj := 130) (na := 3) (mx := 6) (p := 23) (args := [.long (x2).toInt64, .long (0 : Int64), .long (7 : Int64)]) (rest := []) (al2 := [some (.long (x2).toInt64), none, some (.long (0 : Int64)), none, some (.long (7 : Int64)), none]) (by decide +kernel) rfl (by decide +kernel) rfl rfl rfl rfl rfl rfl rfl (by omega) (fun d' hd' => fe_130 (by omega) w39) rfl ?_
      by_cases c41 : (fx_b q40.1) = 0
      · rw [if_pos c41] at h
        refine fs_if_eq_t (off := 35) (t := 58) (by decide +kernel) (by decide +kernel) c41 ?_
        refine fs_iconst (n := -1) (p := 59) (by decide +kernel) rfl kc_m1 ?_
        have h := Option.some.inj h
        subst h
        exact fs_iret (by decide +kernel) rt_195
      · rw [if_neg c41] at h
        refine fs_if_eq_f (off := 35) (t := 58) (p := 26) (by decide +kernel) (by decide +kernel) rfl c41 ?_
        refine fs_aload_n (k := 0) (p := 27) (by decide +kernel) rfl rfl ?_
        refine fs_iconst (n := 0) (p := 28) (by decide +kernel) rfl kc_0 ?_
        refine fs_iload_n (k := 2) (p := 29) (by decide +kernel) rfl rfl ?_
        obtain ⟨q43, w42, h⟩ := fx_bd h
        refine fs_callV (idx := 202) (mj := 153) (ci := 10) (na := 2) (mx := 4) (p := 32) (args := [.ref 215, .int (0 : Int32), .int x2]) (rest := []) (al2 := [some (.ref 215), some (.int (0 : Int32)), some (.int x2), none]) (by decide +kernel) rfl (by decide +kernel) fo_215 rfl rfl rfl rfl rfl rfl rfl (by omega) (fun d' hd' => fe_153 (by omega) w42) rfl ?_
        by_cases c44 : (fx_b q43.1) = 0
        · rw [if_pos c44] at h
          refine fs_if_eq_t (off := 26) (t := 58) (by decide +kernel) (by decide +kernel) c44 ?_
          refine fs_iconst (n := -1) (p := 59) (by decide +kernel) rfl kc_m1 ?_
          have h := Option.some.inj h
          subst h
          exact fs_iret (by decide +kernel) rt_195
        · rw [if_neg c44] at h
          refine fs_if_eq_f (off := 26) (t := 58) (p := 35) (by decide +kernel) (by decide +kernel) rfl c44 ?_
          refine fs_iload_n (k := 3) (p := 36) (by decide +kernel) rfl rfl ?_
          refine fs_i2l (p := 37) (by decide +kernel) rfl ?_
          refine fs_lconst (n := 0) (p := 38) (by decide +kernel) rfl kl_0 ?_
          refine fs_ldc2 (idx := 310) (p := 41) (x := 8) (by decide +kernel) rfl (by decide +kernel) ?_
          obtain ⟨q47, w46, h⟩ := fx_bd h
          refine fs_callS (idx := 128) (mj := 130) (na := 3) (mx := 6) (p := 44) (args := [.long (x3).toInt64, .long (0 : Int64), .long (8 : Int64)]) (rest := []) (al2 := [some (.long (x3).toInt64), none, some (.long (0 : Int64)), none, some (.long (8 : Int64)), none]) (by decide +kernel) rfl (by decide +kernel) rfl rfl rfl rfl rfl rfl rfl (by omega) (fun d' hd' => fe_130 (by omega) w46) rfl ?_
          by_cases c48 : (fx_b q47.1) = 0
          · rw [if_pos c48] at h
            refine fs_if_eq_t (off := 14) (t := 58) (by decide +kernel) (by decide +kernel) c48 ?_
            refine fs_iconst (n := -1) (p := 59) (by decide +kernel) rfl kc_m1 ?_
            have h := Option.some.inj h
            subst h
            exact fs_iret (by decide +kernel) rt_195
          · rw [if_neg c48] at h
            refine fs_if_eq_f (off := 14) (t := 58) (p := 47) (by decide +kernel) (by decide +kernel) rfl c48 ?_
            refine fs_iload (k := 4) (p := 49) (by decide +kernel) rfl rfl ?_
            refine fs_i2l (p := 50) (by decide +kernel) rfl ?_
            refine fs_lconst (n := 0) (p := 51) (by decide +kernel) rfl kl_0 ?_
            refine fs_lconst (n := 1) (p := 52) (by decide +kernel) rfl kl_1 ?_
            obtain ⟨q51, w50, h⟩ := fx_bd h
            refine fs_callS (idx := 128) (mj := 130) (na := 3) (mx := 6) (p := 55) (args := [.long (x4).toInt64, .long (0 : Int64), .long (1 : Int64)]) (rest := []) (al2 := [some (.long (x4).toInt64), none, some (.long (0 : Int64)), none, some (.long (1 : Int64)), none]) (by decide +kernel) rfl (by decide +kernel) rfl rfl rfl rfl rfl rfl rfl (by omega) (fun d' hd' => fe_130 (by omega) w50) rfl ?_
            by_cases c52 : ¬ (fx_b q51.1) = 0
            · rw [if_pos c52] at h
              refine fs_if_ne_t (off := 5) (t := 60) (by decide +kernel) (by decide +kernel) c52 ?_
              refine fs_aload_n (k := 0) (p := 61) (by decide +kernel) rfl rfl ?_
              refine fs_iload_n (k := 1) (p := 62) (by decide +kernel) rfl rfl ?_
              refine fs_iload_n (k := 2) (p := 63) (by decide +kernel) rfl rfl ?_
              obtain ⟨q54, w53, h⟩ := fx_bd h
              refine fs_callV (idx := 297) (mj := 180) (ci := 10) (na := 2) (mx := 3) (p := 66) (args := [.ref 215, .int x1, .int x2]) (rest := []) (al2 := [some (.ref 215), some (.int x1), some (.int x2)]) (by decide +kernel) rfl (by decide +kernel) fo_215 rfl rfl rfl rfl rfl rfl rfl (by omega) (fun d' hd' => fe_180 (by omega) w53) rfl ?_
              refine fs_istore (k := 5) (p := 68) (M := 6) (al' := [some (.ref 215), some (.int x1), some (.int x2), some (.int x3), some (.int x4), some (.int (fx_b q54.1))]) (by decide +kernel) rfl mx_195 rfl rfl ?_
              refine fs_aload_n (k := 0) (p := 69) (by decide +kernel) rfl rfl ?_
              refine fs_iload_n (k := 1) (p := 70) (by decide +kernel) rfl rfl ?_
              refine fs_iload_n (k := 2) (p := 71) (by decide +kernel) rfl rfl ?_
              refine fs_iload_n (k := 3) (p := 72) (by decide +kernel) rfl rfl ?_
              refine fs_iload (k := 5) (p := 74) (by decide +kernel) rfl rfl ?_
              obtain ⟨q56, w55, h⟩ := fx_bd h
              refine fs_callV (idx := 293) (mj := 157) (ci := 10) (na := 4) (mx := 8) (p := 77) (args := [.ref 215, .int x1, .int x2, .int x3, .int (fx_b q54.1)]) (rest := []) (al2 := [some (.ref 215), some (.int x1), some (.int x2), some (.int x3), some (.int (fx_b q54.1)), none, none, none]) (by decide +kernel) rfl (by decide +kernel) fo_215 rfl rfl rfl rfl rfl rfl rfl (by omega) (fun d' hd' => fe_157 (by omega) w55) rfl ?_
              refine fs_i2l (p := 78) (by decide +kernel) rfl ?_
              refine fs_aload_n (k := 0) (p := 79) (by decide +kernel) rfl rfl ?_
              refine fs_iload_n (k := 1) (p := 80) (by decide +kernel) rfl rfl ?_
              refine fs_iload_n (k := 2) (p := 81) (by decide +kernel) rfl rfl ?_
              refine fs_iconst (n := -1) (p := 82) (by decide +kernel) rfl kc_m1 ?_
              refine fs_iload (k := 5) (p := 84) (by decide +kernel) rfl rfl ?_
              obtain ⟨q59, w58, h⟩ := fx_bd h
              refine fs_callV (idx := 293) (mj := 157) (ci := 10) (na := 4) (mx := 8) (p := 87) (args := [.ref 215, .int x1, .int x2, .int (-1 : Int32), .int (fx_b q54.1)]) (rest := [.long (q56.1).toInt64]) (al2 := [some (.ref 215), some (.int x1), some (.int x2), some (.int (-1 : Int32)), some (.int (fx_b q54.1)), none, none, none]) (by decide +kernel) rfl (by decide +kernel) fo_215 rfl rfl rfl rfl rfl rfl rfl (by omega) (fun d' hd' => fe_157 (by omega) w58) rfl ?_
              refine fs_i2l (p := 88) (by decide +kernel) rfl ?_
              refine fs_iload (k := 4) (p := 90) (by decide +kernel) rfl rfl ?_
              obtain ⟨q62, w61, h⟩ := fx_bd h
              refine fs_callS (idx := 342) (mj := 194) (na := 3) (mx := 7) (p := 93) (args := [.long (q56.1).toInt64, .long (q59.1).toInt64, .int x4]) (rest := []) (al2 := [some (.long (q56.1).toInt64), none, some (.long (q59.1).toInt64), none, some (.int x4), none, none]) (by decide +kernel) rfl (by decide +kernel) rfl rfl rfl rfl rfl rfl rfl (by omega) (fun d' hd' => fe_194 (by omega) w61) rfl ?_
              refine fs_l2i (p := 94) (by decide +kernel) rfl ?_
              have h := Option.some.inj h
              subst h
              exact fs_iret (by decide +kernel) rt_195
            · rw [if_neg c52] at h
              refine fs_if_ne_f (off := 5) (t := 60) (p := 58) (by decide +kernel) (by decide +kernel) rfl c52 ?_
              refine fs_iconst (n := -1) (p := 59) (by decide +kernel) rfl kc_m1 ?_
              have h := Option.some.inj h
              subst h
              exact fs_iret (by decide +kernel) rt_195

/-! ZoneSharesModel.exact(III)J -/
theorem mx_196 : iv_mx 196 = 7 := by decide +kernel
theorem rt_196 : iv_rt 196 = some .long := by decide +kernel
def fm_196_38 (σ : fx_S) : Option (Int64 × fx_S) :=
  some ((-1 : Int64), σ)
theorem fe_196_38 {d : Nat} (hd : 6 ≤ d) (o0 : Option Value) (o1 : Option Value) (o2 : Option Value) (o3 : Option Value) (σ : fx_S) (q : Int64 × fx_S) (h : fm_196_38  σ = some q) : fx_E none 196 d 38 [o0, o1, o2, o3, none, none, none] [] σ (some (.long q.1)) q.2 := by
  unfold fm_196_38 at h
  refine fs_ldc2 (idx := 306) (p := 41) (x := -1) (by decide +kernel) rfl (by decide +kernel) ?_
  have h := Option.some.inj h
  subst h
  exact fs_lret (by decide +kernel) rt_196
def fm_196_125 (k_63 : Int32 → Int32 → Int64 → Int32 → fx_S → Option (Int64 × fx_S)) (x2 : Int32) (x3 : Int32) (x4 : Int64) (x6 : Int32) (σ : fx_S) : Option (Int64 × fx_S) :=
  k_63 x2 x3 x4 (x6 + (1 : Int32)) σ
theorem fe_196_125 {d : Nat} (hd : 6 ≤ d) {k_63 : Int32 → Int32 → Int64 → Int32 → fx_S → Option (Int64 × fx_S)} (hk_63 : ∀ (x2 : Int32) (x3 : Int32) (x4 : Int64) (x6 : Int32) (o1 : Option Value) (σ : fx_S) (q : Int64 × fx_S), k_63 x2 x3 x4 x6 σ = some q → fx_E none 196 d 63 [some (.ref 215), o1, some (.int x2), some (.int x3), some (.long x4), none, some (.int x6)] [] σ (some (.long q.1)) q.2) (x2 : Int32) (x3 : Int32) (x4 : Int64) (x6 : Int32) (o1 : Option Value) (σ : fx_S) (q : Int64 × fx_S) (h : fm_196_125 k_63  x2 x3 x4 x6 σ = some q) : fx_E none 196 d 125 [some (.ref 215), o1, some (.int x2), some (.int x3), some (.long x4), none, some (.int x6)] [] σ (some (.long q.1)) q.2 := by
  unfold fm_196_125 at h
  refine fs_iinc (k := 6) (n := 1) (p := 128) (M := 7) (al' := [some (.ref 215), o1, some (.int x2), some (.int x3), some (.long x4), none, some (.int (x6 + (1 : Int32)))]) (by decide +kernel) rfl kc_1 mx_196 rfl rfl rfl ?_
  refine fs_goto (off := -65) (p := 63) (by decide +kernel) (by decide +kernel) ?_
  exact hk_63 _ _ _ _ _ _ _ h
def fm_196_63 : Nat → Int32 → Int32 → Int64 → Int32 → fx_S → Option (Int64 × fx_S)
  | 0, _, _, _, _, _ => none
  | n + 1, x2, x3, x4, x6, σ =>
    if (8 : Int32) ≤ x6 then (
      if ¬ (σ.2 215 30) = 0 then (
      if ¬ x3 = 0 then (
        if ¬ (σ.2 215 30) = 0 then (
        (fm_194 ((σ.2 215 29) - (σ.2 215 29) / (σ.2 215 30) * (σ.2 215 30)) (σ.2 215 30) (x3 - (1 : Int32)) σ).bind fun q9 =>
        some (q9.1, q9.2)) else none) else (
        some ((x4 + ((σ.2 215 29) / (σ.2 215 30))), σ))) else none) else (
      (fm_161 x6 σ).bind fun q11 =>
      if q11.1 ≤ 0 then (
        fm_196_125 (fm_196_63 n) x2 x3 x4 x6 q11.2) else (
        (fm_162 x6 q11.2).bind fun q15 =>
        (fm_160 x6 x2 q15.2).bind fun q17 =>
        (fx_ldl q17.2 224 q17.1).bind fun v18 =>
        (fm_160 x6 x2 q17.2).bind fun q22 =>
        (fx_ldl q22.2 225 q22.1).bind fun v23 =>
        (fx_ld q22.2 223 x6).bind fun v26 =>
        (fm_165 v23 (v26).toInt64 q22.2).bind fun q31 =>
        fm_196_125 (fm_196_63 n) x2 x3 (x4 + v18) x6 q31))
theorem fe_196_63 {d : Nat} (hd : 6 ≤ d) : ∀ (n : Nat) (x2 : Int32) (x3 : Int32) (x4 : Int64) (x6 : Int32) (o1 : Option Value) (σ : fx_S) (q : Int64 × fx_S), fm_196_63 n x2 x3 x4 x6 σ = some q → fx_E none 196 d 63 [some (.ref 215), o1, some (.int x2), some (.int x3), some (.long x4), none, some (.int x6)] [] σ (some (.long q.1)) q.2 := by
  intro n
  induction n with
  | zero =>
    intro x2 x3 x4 x6 o1 σ q  h
    rw [fm_196_63] at h
    exact fx_no h
  | succ n ih =>
    intro x2 x3 x4 x6 o1 σ q  h
    rw [fm_196_63] at h
    refine fs_iload (k := 6) (p := 65) (by decide +kernel) rfl rfl ?_
    refine fs_bipush (n := 8) (p := 67) (by decide +kernel) rfl kb_8 ?_
    by_cases c2 : (8 : Int32) ≤ x6
    · rw [if_pos c2] at h
      refine fs_icmp_ge_t (off := 64) (t := 131) (by decide +kernel) (by decide +kernel) c2 ?_
      refine fs_lload (k := 4) (p := 133) (by decide +kernel) rfl rfl ?_
      refine fs_aload_n (k := 0) (p := 134) (by decide +kernel) rfl rfl ?_
      refine fs_gfl (idx := 229) (ci := 10) (j := 29) (p := 137) (by decide +kernel) rfl (by decide +kernel) fo_215 ?_
      refine fs_aload_n (k := 0) (p := 138) (by decide +kernel) rfl rfl ?_
      refine fs_gfl (idx := 221) (ci := 10) (j := 30) (p := 141) (by decide +kernel) rfl (by decide +kernel) fo_215 ?_
      obtain ⟨z4, h⟩ := fx_gd h
      refine fs_ldiv (p := 142) (by decide +kernel) rfl z4 ?_
      refine fs_ladd (p := 143) (by decide +kernel) rfl ?_
      refine fs_lstore (k := 4) (p := 145) (M := 7) (al' := [some (.ref 215), o1, some (.int x2), some (.int x3), some (.long (x4 + ((σ.2 215 29) / (σ.2 215 30)))), none, some (.int x6)]) (by decide +kernel) rfl mx_196 rfl rfl ?_
      refine fs_iload_n (k := 3) (p := 146) (by decide +kernel) rfl rfl ?_
      by_cases c6 : ¬ x3 = 0
      · rw [if_pos c6] at h
        refine fs_if_ne_t (off := 8) (t := 154) (by decide +kernel) (by decide +kernel) c6 ?_
        refine fs_aload_n (k := 0) (p := 155) (by decide +kernel) rfl rfl ?_
        refine fs_gfl (idx := 229) (ci := 10) (j := 29) (p := 158) (by decide +kernel) rfl (by decide +kernel) fo_215 ?_
        refine fs_aload_n (k := 0) (p := 159) (by decide +kernel) rfl rfl ?_
        refine fs_gfl (idx := 221) (ci := 10) (j := 30) (p := 162) (by decide +kernel) rfl (by decide +kernel) fo_215 ?_
        obtain ⟨z7, h⟩ := fx_gd h
        refine fs_lrem (p := 163) (by decide +kernel) rfl z7 ?_
        refine fs_aload_n (k := 0) (p := 164) (by decide +kernel) rfl rfl ?_
        refine fs_gfl (idx := 221) (ci := 10) (j := 30) (p := 167) (by decide +kernel) rfl (by decide +kernel) fo_215 ?_
        refine fs_iload_n (k := 3) (p := 168) (by decide +kernel) rfl rfl ?_
        refine fs_iconst (n := 1) (p := 169) (by decide +kernel) rfl kc_1 ?_
        refine fs_isub (p := 170) (by decide +kernel) rfl ?_
        obtain ⟨q9, w8, h⟩ := fx_bd h
        refine fs_callS (idx := 342) (mj := 194) (na := 3) (mx := 7) (p := 173) (args := [.long ((σ.2 215 29) - (σ.2 215 29) / (σ.2 215 30) * (σ.2 215 30)), .long (σ.2 215 30), .int (x3 - (1 : Int32))]) (rest := []) (al2 := [some (.long ((σ.2 215 29) - (σ.2 215 29) / (σ.2 215 30) * (σ.2 215 30))), none, some (.long (σ.2 215 30)), none, some (.int (x3 - (1 : Int32))), none, none]) (by decide +kernel) rfl (by decide +kernel) rfl rfl rfl rfl rfl rfl rfl (by omega) (fun d' hd' => fe_194 (by omega) w8) rfl ?_
        have h := Option.some.inj h
        subst h
        exact fs_lret (by decide +kernel) rt_196
      · rw [if_neg c6] at h
        refine fs_if_ne_f (off := 8) (t := 154) (p := 149) (by decide +kernel) (by decide +kernel) rfl c6 ?_
        refine fs_lload (k := 4) (p := 151) (by decide +kernel) rfl rfl ?_
        refine fs_goto (off := 22) (p := 173) (by decide +kernel) (by decide +kernel) ?_
        have h := Option.some.inj h
        subst h
        exact fs_lret (by decide +kernel) rt_196
    · rw [if_neg c2] at h
      refine fs_icmp_ge_f (off := 64) (t := 131) (p := 70) (by decide +kernel) (by decide +kernel) rfl c2 ?_
      refine fs_aload_n (k := 0) (p := 71) (by decide +kernel) rfl rfl ?_
      refine fs_iload (k := 6) (p := 73) (by decide +kernel) rfl rfl ?_
      obtain ⟨q11, w10, h⟩ := fx_bd h
      refine fs_callV (idx := 254) (mj := 161) (ci := 10) (na := 1) (mx := 4) (p := 76) (args := [.ref 215, .int x6]) (rest := []) (al2 := [some (.ref 215), some (.int x6), none, none]) (by decide +kernel) rfl (by decide +kernel) fo_215 rfl rfl rfl rfl rfl rfl rfl (by omega) (fun d' hd' => fe_161 (by omega) w10) rfl ?_
      by_cases c13 : q11.1 ≤ 0
      · rw [if_pos c13] at h
        refine fs_if_le_t (off := 49) (t := 125) (by decide +kernel) (by decide +kernel) c13 ?_
        exact fe_196_125 hd ih _ _ _ _ _ _ _ h
      · rw [if_neg c13] at h
        refine fs_if_le_f (off := 49) (t := 125) (p := 79) (by decide +kernel) (by decide +kernel) rfl c13 ?_
        refine fs_aload_n (k := 0) (p := 80) (by decide +kernel) rfl rfl ?_
        refine fs_iload (k := 6) (p := 82) (by decide +kernel) rfl rfl ?_
        obtain ⟨q15, w14, h⟩ := fx_bd h
        refine fs_callV (idx := 217) (mj := 162) (ci := 10) (na := 1) (mx := 7) (p := 85) (args := [.ref 215, .int x6]) (rest := []) (al2 := [some (.ref 215), some (.int x6), none, none, none, none, none]) (by decide +kernel) rfl (by decide +kernel) fo_215 rfl rfl rfl rfl rfl rfl rfl (by omega) (fun d' hd' => fe_162 (by omega) w14) rfl ?_
        refine fs_pop2 (p := 86) (by decide +kernel) rfl rfl ?_
        refine fs_lload (k := 4) (p := 88) (by decide +kernel) rfl rfl ?_
        refine fs_aload_n (k := 0) (p := 89) (by decide +kernel) rfl rfl ?_
        refine fs_gfr (idx := 36) (ci := 10) (j := 15) (p := 92) (by decide +kernel) rfl (by decide +kernel) fo_215 (fr_a215_15) ?_
        refine fs_iload (k := 6) (p := 94) (by decide +kernel) rfl rfl ?_
        refine fs_iload_n (k := 2) (p := 95) (by decide +kernel) rfl rfl ?_
        obtain ⟨q17, w16, h⟩ := fx_bd h
        refine fs_callS (idx := 214) (mj := 160) (na := 2) (mx := 2) (p := 98) (args := [.int x6, .int x2]) (rest := [.ref 224, .long x4]) (al2 := [some (.int x6), some (.int x2)]) (by decide +kernel) rfl (by decide +kernel) rfl rfl rfl rfl rfl rfl rfl (by omega) (fun d' hd' => fe_160 (by omega) w16) rfl ?_
        obtain ⟨v18, w19, h⟩ := fx_bd h
        refine fs_laload (p := 99) (by decide +kernel) rfl w19 ?_
        refine fs_ladd (p := 100) (by decide +kernel) rfl ?_
        refine fs_lstore (k := 4) (p := 102) (M := 7) (al' := [some (.ref 215), o1, some (.int x2), some (.int x3), some (.long (x4 + v18)), none, some (.int x6)]) (by decide +kernel) rfl mx_196 rfl rfl ?_
        refine fs_aload_n (k := 0) (p := 103) (by decide +kernel) rfl rfl ?_
        refine fs_aload_n (k := 0) (p := 104) (by decide +kernel) rfl rfl ?_
        refine fs_gfr (idx := 39) (ci := 10) (j := 16) (p := 107) (by decide +kernel) rfl (by decide +kernel) fo_215 (fr_a215_16) ?_
        refine fs_iload (k := 6) (p := 109) (by decide +kernel) rfl rfl ?_
        refine fs_iload_n (k := 2) (p := 110) (by decide +kernel) rfl rfl ?_
        obtain ⟨q22, w21, h⟩ := fx_bd h
        refine fs_callS (idx := 214) (mj := 160) (na := 2) (mx := 2) (p := 113) (args := [.int x6, .int x2]) (rest := [.ref 225, .ref 215]) (al2 := [some (.int x6), some (.int x2)]) (by decide +kernel) rfl (by decide +kernel) rfl rfl rfl rfl rfl rfl rfl (by omega) (fun d' hd' => fe_160 (by omega) w21) rfl ?_
        obtain ⟨v23, w24, h⟩ := fx_bd h
        refine fs_laload (p := 114) (by decide +kernel) rfl w24 ?_
        refine fs_aload_n (k := 0) (p := 115) (by decide +kernel) rfl rfl ?_
        refine fs_gfr (idx := 33) (ci := 10) (j := 14) (p := 118) (by decide +kernel) rfl (by decide +kernel) fo_215 (fr_a215_14) ?_
        refine fs_iload (k := 6) (p := 120) (by decide +kernel) rfl rfl ?_
        obtain ⟨v26, w27, h⟩ := fx_bd h
        refine fs_iaload (p := 121) (by decide +kernel) rfl w27 ?_
        refine fs_i2l (p := 122) (by decide +kernel) rfl ?_
        obtain ⟨q31, w30, h⟩ := fx_bd h
        refine fs_callV (idx := 232) (mj := 165) (ci := 10) (na := 2) (mx := 9) (p := 125) (args := [.ref 215, .long v23, .long (v26).toInt64]) (rest := []) (al2 := [some (.ref 215), some (.long v23), none, some (.long (v26).toInt64), none, none, none, none, none]) (by decide +kernel) rfl (by decide +kernel) fo_215 rfl rfl rfl rfl rfl rfl rfl (by omega) (fun d' hd' => fe_165 (by omega) w30) rfl ?_
        exact fe_196_125 hd ih _ _ _ _ _ _ _ h
def fm_196 (x1 : Int32) (x2 : Int32) (x3 : Int32) (σ : fx_S) : Option (Int64 × fx_S) :=
  (fm_150 σ).bind fun q49 =>
  if (fx_b q49.1) = 0 then (
    fm_196_38 q49.2) else (
    (fm_148 x1 q49.2).bind fun q52 =>
    if (fx_b q52.1) = 0 then (
      fm_196_38 q52.2) else (
      (fm_130 (x2).toInt64 (0 : Int64) (8 : Int64) q52.2).bind fun q56 =>
      if (fx_b q56.1) = 0 then (
        fm_196_38 q56.2) else (
        (fm_130 (x3).toInt64 (0 : Int64) (2 : Int64) q56.2).bind fun q60 =>
        if ¬ (fx_b q60.1) = 0 then (
          (fm_181 x1 q60.2).bind fun q63 =>
          fm_196_63 100000 x2 x3 (0 : Int64) (0 : Int32) (fx_w2 (fx_w2 q63 215 29 (0 : Int64)) 215 30 (1 : Int64))) else (
          fm_196_38 q60.2))))
theorem fe_196 {d : Nat} (hd : 6 ≤ d) {x1 : Int32} {x2 : Int32} {x3 : Int32} {σ : fx_S} {q : Int64 × fx_S} (h : fm_196 x1 x2 x3 σ = some q) : fx_E none 196 d 0 [some (.ref 215), some (.int x1), some (.int x2), some (.int x3), none, none, none] [] σ (some (.long q.1)) q.2 := by
  unfold fm_196 at h
  refine fs_aload_n (k := 0) (p := 1) (by decide +kernel) rfl rfl ?_
  obtain ⟨q49, w48, h⟩ := fx_bd h
  refine fs_callV (idx := 303) (mj := 150) (ci := 10) (na := 0) (mx := 1) (p := 4) (args := [.ref 215]) (rest := []) (al2 := [some (.ref 215)]) (by decide +kernel) rfl (by decide +kernel) fo_215 rfl rfl rfl rfl rfl rfl rfl (by omega) (fun d' hd' => fe_150 (by omega) w48) rfl ?_
  by_cases c50 : (fx_b q49.1) = 0
  · rw [if_pos c50] at h
    refine fs_if_eq_t (off := 34) (t := 38) (by decide +kernel) (by decide +kernel) c50 ?_
    exact fe_196_38 hd _ _ _ _ _ _ h
  · rw [if_neg c50] at h
    refine fs_if_eq_f (off := 34) (t := 38) (p := 7) (by decide +kernel) (by decide +kernel) rfl c50 ?_
    refine fs_iload_n (k := 1) (p := 8) (by decide +kernel) rfl rfl ?_
    obtain ⟨q52, w51, h⟩ := fx_bd h
    refine fs_callS (idx := 190) (mj := 148) (na := 1) (mx := 1) (p := 11) (args := [.int x1]) (rest := []) (al2 := [some (.int x1)]) (by decide +kernel) rfl (by decide +kernel) rfl rfl rfl rfl rfl rfl rfl (by omega) (fun d' hd' => fe_148 (by omega) w51) rfl ?_
    by_cases c53 : (fx_b q52.1) = 0
    · rw [if_pos c53] at h
      refine fs_if_eq_t (off := 27) (t := 38) (by decide +kernel) (by decide +kernel) c53 ?_
      exact fe_196_38 hd _ _ _ _ _ _ h
    · rw [if_neg c53] at h
      refine fs_if_eq_f (off := 27) (t := 38) (p := 14) (by decide +kernel) (by decide +kernel) rfl c53 ?_
      refine fs_iload_n (k := 2) (p := 15) (by decide +kernel) rfl rfl ?_
      refine fs_i2l (p := 16) (by decide +kernel) rfl ?_
      refine fs_lconst (n := 0) (p := 17) (by decide +kernel) rfl kl_0 ?_
      refine fs_ldc2 (idx := 310) (p := 20) (x := 8) (by decide +kernel) rfl (by decide +kernel) ?_
      obtain ⟨q56, w55, h⟩ := fx_bd h
      refine fs_callS (idx := 128) (mj := 130) (na := 3) (mx := 6) (p := 23) (args := [.long (x2).toInt64, .long (0 : Int64), .long (8 : Int64)]) (rest := []) (al2 := [some (.long (x2).toInt64), none, some (.long (0 : Int64)), none, some (.long (8 : Int64)), none]) (by decide +kernel) rfl (by decide +kernel) rfl rfl rfl rfl rfl rfl rfl (by omega) (fun d' hd' => fe_130 (by omega) w55) rfl ?_
      by_cases c57 : (fx_b q56.1) = 0
      · rw [if_pos c57] at h
        refine fs_if_eq_t (off := 15) (t := 38) (by decide +kernel) (by decide +kernel) c57 ?_
        exact fe_196_38 hd _ _ _ _ _ _ h
      · rw [if_neg c57] at h
        refine fs_if_eq_f (off := 15) (t := 38) (p := 26) (by decide +kernel) (by decide +kernel) rfl c57 ?_
        refine fs_iload_n (k := 3) (p := 27) (by decide +kernel) rfl rfl ?_
        refine fs_i2l (p := 28) (by decide +kernel) rfl ?_
        refine fs_lconst (n := 0) (p := 29) (by decide +kernel) rfl kl_0 ?_
        refine fs_ldc2 (idx := 161) (p := 32) (x := 2) (by decide +kernel) rfl (by decide +kernel) ?_
        obtain ⟨q60, w59, h⟩ := fx_bd h
        refine fs_callS (idx := 128) (mj := 130) (na := 3) (mx := 6) (p := 35) (args := [.long (x3).toInt64, .long (0 : Int64), .long (2 : Int64)]) (rest := []) (al2 := [some (.long (x3).toInt64), none, some (.long (0 : Int64)), none, some (.long (2 : Int64)), none]) (by decide +kernel) rfl (by decide +kernel) rfl rfl rfl rfl rfl rfl rfl (by omega) (fun d' hd' => fe_130 (by omega) w59) rfl ?_
        by_cases c61 : ¬ (fx_b q60.1) = 0
        · rw [if_pos c61] at h
          refine fs_if_ne_t (off := 7) (t := 42) (by decide +kernel) (by decide +kernel) c61 ?_
          refine fs_aload_n (k := 0) (p := 43) (by decide +kernel) rfl rfl ?_
          refine fs_iload_n (k := 1) (p := 44) (by decide +kernel) rfl rfl ?_
          obtain ⟨q63, w62, h⟩ := fx_bd h
          refine fs_callV (idx := 312) (mj := 181) (ci := 10) (na := 1) (mx := 5) (p := 47) (args := [.ref 215, .int x1]) (rest := []) (al2 := [some (.ref 215), some (.int x1), none, none, none]) (by decide +kernel) rfl (by decide +kernel) fo_215 rfl rfl rfl rfl rfl rfl rfl (by omega) (fun d' hd' => fe_181 (by omega) w62) rfl ?_
          refine fs_lconst (n := 0) (p := 48) (by decide +kernel) rfl kl_0 ?_
          refine fs_lstore (k := 4) (p := 50) (M := 7) (al' := [some (.ref 215), some (.int x1), some (.int x2), some (.int x3), some (.long (0 : Int64)), none, none]) (by decide +kernel) rfl mx_196 rfl rfl ?_
          refine fs_aload_n (k := 0) (p := 51) (by decide +kernel) rfl rfl ?_
          refine fs_lconst (n := 0) (p := 52) (by decide +kernel) rfl kl_0 ?_
          refine fs_pfl (idx := 229) (ci := 10) (j := 29) (p := 55) (by decide +kernel) rfl (by decide +kernel) (by decide +kernel) fo_215 ?_
          refine fs_aload_n (k := 0) (p := 56) (by decide +kernel) rfl rfl ?_
          refine fs_lconst (n := 1) (p := 57) (by decide +kernel) rfl kl_1 ?_
          refine fs_pfl (idx := 221) (ci := 10) (j := 30) (p := 60) (by decide +kernel) rfl (by decide +kernel) (by decide +kernel) fo_215 ?_
          refine fs_iconst (n := 0) (p := 61) (by decide +kernel) rfl kc_0 ?_
          refine fs_istore (k := 6) (p := 63) (M := 7) (al' := [some (.ref 215), some (.int x1), some (.int x2), some (.int x3), some (.long (0 : Int64)), none, some (.int (0 : Int32))]) (by decide +kernel) rfl mx_196 rfl rfl ?_
          exact fe_196_63 hd 100000 _ _ _ _ _ _ _ h
        · rw [if_neg c61] at h
          refine fs_if_ne_f (off := 7) (t := 42) (p := 38) (by decide +kernel) (by decide +kernel) rfl c61 ?_
          exact fe_196_38 hd _ _ _ _ _ _ h

/-! ZoneSharesModel.laysSurface(I)V -/
theorem mx_197 : iv_mx 197 = 5 := by decide +kernel
theorem rt_197 : iv_rt 197 = none := by decide +kernel
def fm_197_96 (k_7 : Int32 → Int32 → fx_S → Option (fx_S)) (x1 : Int32) (x2 : Int32) (σ : fx_S) : Option (fx_S) :=
  k_7 x1 (x2 + (1 : Int32)) σ
theorem fe_197_96 {d : Nat} (hd : 5 ≤ d) {k_7 : Int32 → Int32 → fx_S → Option (fx_S)} (hk_7 : ∀ (x1 : Int32) (x2 : Int32) (o3 : Option Value) (o4 : Option Value) (σ : fx_S) (q : fx_S), k_7 x1 x2 σ = some q → fx_E none 197 d 7 [some (.ref 215), some (.int x1), some (.int x2), o3, o4] [] σ none q) (x1 : Int32) (x2 : Int32) (o3 : Option Value) (o4 : Option Value) (σ : fx_S) (q : fx_S) (h : fm_197_96 k_7  x1 x2 σ = some q) : fx_E none 197 d 96 [some (.ref 215), some (.int x1), some (.int x2), o3, o4] [] σ none q := by
  unfold fm_197_96 at h
  refine fs_iinc (k := 2) (n := 1) (p := 99) (M := 5) (al' := [some (.ref 215), some (.int x1), some (.int (x2 + (1 : Int32))), o3, o4]) (by decide +kernel) rfl kc_1 mx_197 rfl rfl rfl ?_
  refine fs_goto (off := -92) (p := 7) (by decide +kernel) (by decide +kernel) ?_
  exact hk_7 _ _ _ _ _ _ h
def fm_197_77 (k_7 : Int32 → Int32 → fx_S → Option (fx_S)) (x1 : Int32) (x2 : Int32) (x3 : Int32) (x4 : Int32) (s1 : Int32) (s2 : Int64) (s3 : Int32) (σ : fx_S) : Option (fx_S) :=
  (fx_stl σ 240 s1 (s2 * (s3).toInt64)).bind fun t2 =>
  (fm_157 x1 x3 (-1 : Int32) x4 t2).bind fun q6 =>
  (fx_stl q6.2 241 x2 (q6.1).toInt64).bind fun t8 =>
  fm_197_96 k_7 x1 x2 t8
theorem fe_197_77 {d : Nat} (hd : 5 ≤ d) {k_7 : Int32 → Int32 → fx_S → Option (fx_S)} (hk_7 : ∀ (x1 : Int32) (x2 : Int32) (o3 : Option Value) (o4 : Option Value) (σ : fx_S) (q : fx_S), k_7 x1 x2 σ = some q → fx_E none 197 d 7 [some (.ref 215), some (.int x1), some (.int x2), o3, o4] [] σ none q) (x1 : Int32) (x2 : Int32) (x3 : Int32) (x4 : Int32) (s1 : Int32) (s2 : Int64) (s3 : Int32) (σ : fx_S) (q : fx_S) (h : fm_197_77 k_7  x1 x2 x3 x4 s1 s2 s3 σ = some q) : fx_E none 197 d 77 [some (.ref 215), some (.int x1), some (.int x2), some (.int x3), some (.int x4)] [.int s3, .long s2, .int s1, .ref 240] σ none q := by
  unfold fm_197_77 at h
  refine fs_i2l (p := 78) (by decide +kernel) rfl ?_
  refine fs_lmul (p := 79) (by decide +kernel) rfl ?_
  obtain ⟨t2, w3, h⟩ := fx_bd h
  refine fs_lastore (p := 80) (by decide +kernel) rfl w3 ?_
  refine fs_aload_n (k := 0) (p := 81) (by decide +kernel) rfl rfl ?_
  refine fs_gfr (idx := 88) (ci := 10) (j := 36) (p := 84) (by decide +kernel) rfl (by decide +kernel) fo_215 (fr_a215_36) ?_
  refine fs_iload_n (k := 2) (p := 85) (by decide +kernel) rfl rfl ?_
  refine fs_aload_n (k := 0) (p := 86) (by decide +kernel) rfl rfl ?_
  refine fs_iload_n (k := 1) (p := 87) (by decide +kernel) rfl rfl ?_
  refine fs_iload_n (k := 3) (p := 88) (by decide +kernel) rfl rfl ?_
  refine fs_iconst (n := -1) (p := 89) (by decide +kernel) rfl kc_m1 ?_
  refine fs_iload (k := 4) (p := 91) (by decide +kernel) rfl rfl ?_
  obtain ⟨q6, w5, h⟩ := fx_bd h
  refine fs_callV (idx := 293) (mj := 157) (ci := 10) (na := 4) (mx := 8) (p := 94) (args := [.ref 215, .int x1, .int x3, .int (-1 : Int32), .int x4]) (rest := [.int x2, .ref 241]) (al2 := [some (.ref 215), some (.int x1), some (.int x3), some (.int (-1 : Int32)), some (.int x4), none, none, none]) (by decide +kernel) rfl (by decide +kernel) fo_215 rfl rfl rfl rfl rfl rfl rfl (by omega) (fun d' hd' => fe_157 (by omega) w5) rfl ?_
  refine fs_i2l (p := 95) (by decide +kernel) rfl ?_
  obtain ⟨t8, w9, h⟩ := fx_bd h
  refine fs_lastore (p := 96) (by decide +kernel) rfl w9 ?_
  exact fe_197_96 hd hk_7 _ _ _ _ _ _ h
def fm_197_7 : Nat → Int32 → Int32 → fx_S → Option (fx_S)
  | 0, _, _, _ => none
  | n + 1, x1, x2, σ =>
    (fm_151 σ).bind fun q2 =>
    if q2.1 ≤ x2 then (
      some q2.2) else (
      (fm_152 (0 : Int32) x2 q2.2).bind fun q7 =>
      (fx_stl q7.2 240 x2 (0 : Int64)).bind fun t8 =>
      (fx_stl t8 241 x2 (1 : Int64)).bind fun t11 =>
      if q7.1 = (8 : Int32) then (
        fm_197_96 (fm_197_7 n) x1 x2 t11) else (
        (fm_180 x1 q7.1 t11).bind fun q16 =>
        (fx_ld q16.2 236 q7.1).bind fun v17 =>
        if (fx_b q16.1) = 0 then (
          (fm_156 x1 x2 q16.2).bind fun q23 =>
          fm_197_77 (fm_197_7 n) x1 x2 q7.1 (fx_b q16.1) x2 ((v17).toInt64) q23.1 q23.2) else (
          fm_197_77 (fm_197_7 n) x1 x2 q7.1 (fx_b q16.1) x2 ((v17).toInt64) (1 : Int32) q16.2)))
theorem fe_197_7 {d : Nat} (hd : 5 ≤ d) : ∀ (n : Nat) (x1 : Int32) (x2 : Int32) (o3 : Option Value) (o4 : Option Value) (σ : fx_S) (q : fx_S), fm_197_7 n x1 x2 σ = some q → fx_E none 197 d 7 [some (.ref 215), some (.int x1), some (.int x2), o3, o4] [] σ none q := by
  intro n
  induction n with
  | zero =>
    intro x1 x2 o3 o4 σ q  h
    rw [fm_197_7] at h
    exact fx_no h
  | succ n ih =>
    intro x1 x2 o3 o4 σ q  h
    rw [fm_197_7] at h
    refine fs_iload_n (k := 2) (p := 8) (by decide +kernel) rfl rfl ?_
    refine fs_aload_n (k := 0) (p := 9) (by decide +kernel) rfl rfl ?_
    obtain ⟨q2, w1, h⟩ := fx_bd h
    refine fs_callV (idx := 196) (mj := 151) (ci := 10) (na := 0) (mx := 1) (p := 12) (args := [.ref 215]) (rest := [.int x2]) (al2 := [some (.ref 215)]) (by decide +kernel) rfl (by decide +kernel) fo_215 rfl rfl rfl rfl rfl rfl rfl (by omega) (fun d' hd' => fe_151 (by omega) w1) rfl ?_
    by_cases c5 : q2.1 ≤ x2
    · rw [if_pos c5] at h
      refine fs_icmp_ge_t (off := 90) (t := 102) (by decide +kernel) (by decide +kernel) c5 ?_
      have h := Option.some.inj h
      subst h
      exact fs_ret (by decide +kernel) rt_197
    · rw [if_neg c5] at h
      refine fs_icmp_ge_f (off := 90) (t := 102) (p := 15) (by decide +kernel) (by decide +kernel) rfl c5 ?_
      refine fs_aload_n (k := 0) (p := 16) (by decide +kernel) rfl rfl ?_
      refine fs_iconst (n := 0) (p := 17) (by decide +kernel) rfl kc_0 ?_
      refine fs_iload_n (k := 2) (p := 18) (by decide +kernel) rfl rfl ?_
      obtain ⟨q7, w6, h⟩ := fx_bd h
      refine fs_callV (idx := 199) (mj := 152) (ci := 10) (na := 2) (mx := 3) (p := 21) (args := [.ref 215, .int (0 : Int32), .int x2]) (rest := []) (al2 := [some (.ref 215), some (.int (0 : Int32)), some (.int x2)]) (by decide +kernel) rfl (by decide +kernel) fo_215 rfl rfl rfl rfl rfl rfl rfl (by omega) (fun d' hd' => fe_152 (by omega) w6) rfl ?_
      refine fs_istore_n (k := 3) (p := 22) (M := 5) (al' := [some (.ref 215), some (.int x1), some (.int x2), some (.int q7.1), o4]) (by decide +kernel) rfl mx_197 rfl rfl ?_
      refine fs_aload_n (k := 0) (p := 23) (by decide +kernel) rfl rfl ?_
      refine fs_gfr (idx := 85) (ci := 10) (j := 35) (p := 26) (by decide +kernel) rfl (by decide +kernel) fo_215 (fr_a215_35) ?_
      refine fs_iload_n (k := 2) (p := 27) (by decide +kernel) rfl rfl ?_
      refine fs_lconst (n := 0) (p := 28) (by decide +kernel) rfl kl_0 ?_
      obtain ⟨t8, w9, h⟩ := fx_bd h
      refine fs_lastore (p := 29) (by decide +kernel) rfl w9 ?_
      refine fs_aload_n (k := 0) (p := 30) (by decide +kernel) rfl rfl ?_
      refine fs_gfr (idx := 88) (ci := 10) (j := 36) (p := 33) (by decide +kernel) rfl (by decide +kernel) fo_215 (fr_a215_36) ?_
      refine fs_iload_n (k := 2) (p := 34) (by decide +kernel) rfl rfl ?_
      refine fs_lconst (n := 1) (p := 35) (by decide +kernel) rfl kl_1 ?_
      obtain ⟨t11, w12, h⟩ := fx_bd h
      refine fs_lastore (p := 36) (by decide +kernel) rfl w12 ?_
      refine fs_iload_n (k := 3) (p := 37) (by decide +kernel) rfl rfl ?_
      refine fs_bipush (n := 8) (p := 39) (by decide +kernel) rfl kb_8 ?_
      by_cases c14 : q7.1 = (8 : Int32)
      · rw [if_pos c14] at h
        refine fs_icmp_eq_t (off := 57) (t := 96) (by decide +kernel) (by decide +kernel) c14 ?_
        exact fe_197_96 hd ih _ _ _ _ _ _ h
      · rw [if_neg c14] at h
        refine fs_icmp_eq_f (off := 57) (t := 96) (p := 42) (by decide +kernel) (by decide +kernel) rfl c14 ?_
        refine fs_aload_n (k := 0) (p := 43) (by decide +kernel) rfl rfl ?_
        refine fs_iload_n (k := 1) (p := 44) (by decide +kernel) rfl rfl ?_
        refine fs_iload_n (k := 3) (p := 45) (by decide +kernel) rfl rfl ?_
        obtain ⟨q16, w15, h⟩ := fx_bd h
        refine fs_callV (idx := 297) (mj := 180) (ci := 10) (na := 2) (mx := 3) (p := 48) (args := [.ref 215, .int x1, .int q7.1]) (rest := []) (al2 := [some (.ref 215), some (.int x1), some (.int q7.1)]) (by decide +kernel) rfl (by decide +kernel) fo_215 rfl rfl rfl rfl rfl rfl rfl (by omega) (fun d' hd' => fe_180 (by omega) w15) rfl ?_
        refine fs_istore (k := 4) (p := 50) (M := 5) (al' := [some (.ref 215), some (.int x1), some (.int x2), some (.int q7.1), some (.int (fx_b q16.1))]) (by decide +kernel) rfl mx_197 rfl rfl ?_
        refine fs_aload_n (k := 0) (p := 51) (by decide +kernel) rfl rfl ?_
        refine fs_gfr (idx := 85) (ci := 10) (j := 35) (p := 54) (by decide +kernel) rfl (by decide +kernel) fo_215 (fr_a215_35) ?_
        refine fs_iload_n (k := 2) (p := 55) (by decide +kernel) rfl rfl ?_
        refine fs_aload_n (k := 0) (p := 56) (by decide +kernel) rfl rfl ?_
        refine fs_gfr (idx := 73) (ci := 10) (j := 31) (p := 59) (by decide +kernel) rfl (by decide +kernel) fo_215 (fr_a215_31) ?_
        refine fs_iload_n (k := 3) (p := 60) (by decide +kernel) rfl rfl ?_
        obtain ⟨v17, w18, h⟩ := fx_bd h
        refine fs_iaload (p := 61) (by decide +kernel) rfl w18 ?_
        refine fs_i2l (p := 62) (by decide +kernel) rfl ?_
        refine fs_iload (k := 4) (p := 64) (by decide +kernel) rfl rfl ?_
        by_cases c21 : (fx_b q16.1) = 0
        · rw [if_pos c21] at h
          refine fs_if_eq_t (off := 7) (t := 71) (by decide +kernel) (by decide +kernel) c21 ?_
          refine fs_aload_n (k := 0) (p := 72) (by decide +kernel) rfl rfl ?_
          refine fs_iload_n (k := 1) (p := 73) (by decide +kernel) rfl rfl ?_
          refine fs_iload_n (k := 2) (p := 74) (by decide +kernel) rfl rfl ?_
          obtain ⟨q23, w22, h⟩ := fx_bd h
          refine fs_callV (idx := 205) (mj := 156) (ci := 10) (na := 2) (mx := 3) (p := 77) (args := [.ref 215, .int x1, .int x2]) (rest := [.long (v17).toInt64, .int x2, .ref 240]) (al2 := [some (.ref 215), some (.int x1), some (.int x2)]) (by decide +kernel) rfl (by decide +kernel) fo_215 rfl rfl rfl rfl rfl rfl rfl (by omega) (fun d' hd' => fe_156 (by omega) w22) rfl ?_
          exact fe_197_77 hd ih _ _ _ _ _ _ _ _ _ h
        · rw [if_neg c21] at h
          refine fs_if_eq_f (off := 7) (t := 71) (p := 67) (by decide +kernel) (by decide +kernel) rfl c21 ?_
          refine fs_iconst (n := 1) (p := 68) (by decide +kernel) rfl kc_1 ?_
          refine fs_goto (off := 9) (p := 77) (by decide +kernel) (by decide +kernel) ?_
          exact fe_197_77 hd ih _ _ _ _ _ _ _ _ _ h
def fm_197 (x1 : Int32) (σ : fx_S) : Option (fx_S) :=
  (fm_177 x1 σ).bind fun q60 =>
  fm_197_7 100000 x1 (0 : Int32) q60
theorem fe_197 {d : Nat} (hd : 5 ≤ d) {x1 : Int32} {σ : fx_S} {q : fx_S} (h : fm_197 x1 σ = some q) : fx_E none 197 d 0 [some (.ref 215), some (.int x1), none, none, none] [] σ none q := by
  unfold fm_197 at h
  refine fs_aload_n (k := 0) (p := 1) (by decide +kernel) rfl rfl ?_
  refine fs_iload_n (k := 1) (p := 2) (by decide +kernel) rfl rfl ?_
  obtain ⟨q60, w59, h⟩ := fx_bd h
  refine fs_callV (idx := 290) (mj := 177) (ci := 10) (na := 1) (mx := 3) (p := 5) (args := [.ref 215, .int x1]) (rest := []) (al2 := [some (.ref 215), some (.int x1), none]) (by decide +kernel) rfl (by decide +kernel) fo_215 rfl rfl rfl rfl rfl rfl rfl (by omega) (fun d' hd' => fe_177 (by omega) w59) rfl ?_
  refine fs_iconst (n := 0) (p := 6) (by decide +kernel) rfl kc_0 ?_
  refine fs_istore_n (k := 2) (p := 7) (M := 5) (al' := [some (.ref 215), some (.int x1), some (.int (0 : Int32)), none, none]) (by decide +kernel) rfl mx_197 rfl rfl ?_
  exact fe_197_7 hd 100000 _ _ _ _ _ _ h

/-! ZoneSharesModel.isCell(II)Z -/
theorem mx_198 : iv_mx 198 = 3 := by decide +kernel
theorem rt_198 : iv_rt 198 = some .boolean := by decide +kernel
def fm_198 (x1 : Int32) (x2 : Int32) (σ : fx_S) : Option (Bool × fx_S) :=
  (fx_ld σ 216 (0 : Int32)).bind fun v16 =>
  (fm_130 (x1).toInt64 (0 : Int64) ((v16 - (1 : Int32))).toInt64 σ).bind fun q20 =>
  if (fx_b q20.1) = 0 then (
    some (false, q20.2)) else (
    (fx_ld q20.2 216 (1 : Int32)).bind fun v23 =>
    (fm_130 (x2).toInt64 (0 : Int64) ((v23 - (1 : Int32))).toInt64 q20.2).bind fun q27 =>
    if (fx_b q27.1) = 0 then (
      some (false, q27.2)) else (
      some (true, q27.2)))
theorem fe_198 {d : Nat} (hd : 1 ≤ d) {x1 : Int32} {x2 : Int32} {σ : fx_S} {q : Bool × fx_S} (h : fm_198 x1 x2 σ = some q) : fx_E none 198 d 0 [some (.ref 215), some (.int x1), some (.int x2)] [] σ (some (.int (fx_b q.1))) q.2 := by
  unfold fm_198 at h
  refine fs_iload_n (k := 1) (p := 1) (by decide +kernel) rfl rfl ?_
  refine fs_i2l (p := 2) (by decide +kernel) rfl ?_
  refine fs_lconst (n := 0) (p := 3) (by decide +kernel) rfl kl_0 ?_
  refine fs_aload_n (k := 0) (p := 4) (by decide +kernel) rfl rfl ?_
  refine fs_gfr (idx := 9) (ci := 10) (j := 0) (p := 7) (by decide +kernel) rfl (by decide +kernel) fo_215 (fr_a215_0) ?_
  refine fs_iconst (n := 0) (p := 8) (by decide +kernel) rfl kc_0 ?_
  obtain ⟨v16, w17, h⟩ := fx_bd h
  refine fs_iaload (p := 9) (by decide +kernel) rfl w17 ?_
  refine fs_iconst (n := 1) (p := 10) (by decide +kernel) rfl kc_1 ?_
  refine fs_isub (p := 11) (by decide +kernel) rfl ?_
  refine fs_i2l (p := 12) (by decide +kernel) rfl ?_
  obtain ⟨q20, w19, h⟩ := fx_bd h
  refine fs_callS (idx := 128) (mj := 130) (na := 3) (mx := 6) (p := 15) (args := [.long (x1).toInt64, .long (0 : Int64), .long ((v16 - (1 : Int32))).toInt64]) (rest := []) (al2 := [some (.long (x1).toInt64), none, some (.long (0 : Int64)), none, some (.long ((v16 - (1 : Int32))).toInt64), none]) (by decide +kernel) rfl (by decide +kernel) rfl rfl rfl rfl rfl rfl rfl (by omega) (fun d' hd' => fe_130 (by omega) w19) rfl ?_
  by_cases c21 : (fx_b q20.1) = 0
  · rw [if_pos c21] at h
    refine fs_if_eq_t (off := 25) (t := 40) (by decide +kernel) (by decide +kernel) c21 ?_
    refine fs_iconst (n := 0) (p := 41) (by decide +kernel) rfl kc_0 ?_
    have h := Option.some.inj h
    subst h
    exact fs_zret (b := false) (by decide +kernel) rt_198
  · rw [if_neg c21] at h
    refine fs_if_eq_f (off := 25) (t := 40) (p := 18) (by decide +kernel) (by decide +kernel) rfl c21 ?_
    refine fs_iload_n (k := 2) (p := 19) (by decide +kernel) rfl rfl ?_
    refine fs_i2l (p := 20) (by decide +kernel) rfl ?_
    refine fs_lconst (n := 0) (p := 21) (by decide +kernel) rfl kl_0 ?_
    refine fs_aload_n (k := 0) (p := 22) (by decide +kernel) rfl rfl ?_
    refine fs_gfr (idx := 9) (ci := 10) (j := 0) (p := 25) (by decide +kernel) rfl (by decide +kernel) fo_215 (fr_a215_0) ?_
    refine fs_iconst (n := 1) (p := 26) (by decide +kernel) rfl kc_1 ?_
    obtain ⟨v23, w24, h⟩ := fx_bd h
    refine fs_iaload (p := 27) (by decide +kernel) rfl w24 ?_
    refine fs_iconst (n := 1) (p := 28) (by decide +kernel) rfl kc_1 ?_
    refine fs_isub (p := 29) (by decide +kernel) rfl ?_
    refine fs_i2l (p := 30) (by decide +kernel) rfl ?_
    obtain ⟨q27, w26, h⟩ := fx_bd h
    refine fs_callS (idx := 128) (mj := 130) (na := 3) (mx := 6) (p := 33) (args := [.long (x2).toInt64, .long (0 : Int64), .long ((v23 - (1 : Int32))).toInt64]) (rest := []) (al2 := [some (.long (x2).toInt64), none, some (.long (0 : Int64)), none, some (.long ((v23 - (1 : Int32))).toInt64), none]) (by decide +kernel) rfl (by decide +kernel) rfl rfl rfl rfl rfl rfl rfl (by omega) (fun d' hd' => fe_130 (by omega) w26) rfl ?_
    by_cases c28 : (fx_b q27.1) = 0
    · rw [if_pos c28] at h
      refine fs_if_eq_t (off := 7) (t := 40) (by decide +kernel) (by decide +kernel) c28 ?_
      refine fs_iconst (n := 0) (p := 41) (by decide +kernel) rfl kc_0 ?_
      have h := Option.some.inj h
      subst h
      exact fs_zret (b := false) (by decide +kernel) rt_198
    · rw [if_neg c28] at h
      refine fs_if_eq_f (off := 7) (t := 40) (p := 36) (by decide +kernel) (by decide +kernel) rfl c28 ?_
      refine fs_iconst (n := 1) (p := 37) (by decide +kernel) rfl kc_1 ?_
      refine fs_goto (off := 4) (p := 41) (by decide +kernel) (by decide +kernel) ?_
      have h := Option.some.inj h
      subst h
      exact fs_zret (b := true) (by decide +kernel) rt_198

/-! ZoneSharesModel.surface(IIII)J -/
theorem mx_199 : iv_mx 199 = 6 := by decide +kernel
theorem rt_199 : iv_rt 199 = some .long := by decide +kernel
def fm_199_34 (σ : fx_S) : Option (Int64 × fx_S) :=
  some ((-1 : Int64), σ)
theorem fe_199_34 {d : Nat} (hd : 6 ≤ d) (o0 : Option Value) (o1 : Option Value) (o2 : Option Value) (o3 : Option Value) (o4 : Option Value) (σ : fx_S) (q : Int64 × fx_S) (h : fm_199_34  σ = some q) : fx_E none 199 d 34 [o0, o1, o2, o3, o4, none] [] σ (some (.long q.1)) q.2 := by
  unfold fm_199_34 at h
  refine fs_ldc2 (idx := 306) (p := 37) (x := -1) (by decide +kernel) rfl (by decide +kernel) ?_
  have h := Option.some.inj h
  subst h
  exact fs_lret (by decide +kernel) rt_199
def fm_199 (x1 : Int32) (x2 : Int32) (x3 : Int32) (x4 : Int32) (σ : fx_S) : Option (Int64 × fx_S) :=
  (fm_150 σ).bind fun q26 =>
  if (fx_b q26.1) = 0 then (
    fm_199_34 q26.2) else (
    (fm_148 x1 q26.2).bind fun q29 =>
    if (fx_b q29.1) = 0 then (
      fm_199_34 q29.2) else (
      (fm_198 x2 x3 q29.2).bind fun q32 =>
      if (fx_b q32.1) = 0 then (
        fm_199_34 q32.2) else (
        (fm_130 (x4).toInt64 (0 : Int64) (1 : Int64) q32.2).bind fun q36 =>
        if ¬ (fx_b q36.1) = 0 then (
          (fm_197 x1 q36.2).bind fun q39 =>
          (fx_ld q39 216 (1 : Int32)).bind fun v40 =>
          (fx_ldl q39 240 ((v40 * x2) + x3)).bind fun v42 =>
          (fx_ldl q39 241 ((v40 * x2) + x3)).bind fun v45 =>
          (fm_194 v42 v45 x4 q39).bind fun q48 =>
          some (q48.1, q48.2)) else (
          fm_199_34 q36.2))))
theorem fe_199 {d : Nat} (hd : 6 ≤ d) {x1 : Int32} {x2 : Int32} {x3 : Int32} {x4 : Int32} {σ : fx_S} {q : Int64 × fx_S} (h : fm_199 x1 x2 x3 x4 σ = some q) : fx_E none 199 d 0 [some (.ref 215), some (.int x1), some (.int x2), some (.int x3), some (.int x4), none] [] σ (some (.long q.1)) q.2 := by
  unfold fm_199 at h
  refine fs_aload_n (k := 0) (p := 1) (by decide +kernel) rfl rfl ?_
  obtain ⟨q26, w25, h⟩ := fx_bd h
  refine fs_callV (idx := 303) (mj := 150) (ci := 10) (na := 0) (mx := 1) (p := 4) (args := [.ref 215]) (rest := []) (al2 := [some (.ref 215)]) (by decide +kernel) rfl (by decide +kernel) fo_215 rfl rfl rfl rfl rfl rfl rfl (by omega) (fun d' hd' => fe_150 (by omega) w25) rfl ?_
  by_cases c27 : (fx_b q26.1) = 0
  · rw [if_pos c27] at h
    refine fs_if_eq_t (off := 30) (t := 34) (by decide +kernel) (by decide +kernel) c27 ?_
    exact fe_199_34 hd _ _ _ _ _ _ _ h
  · rw [if_neg c27] at h
    refine fs_if_eq_f (off := 30) (t := 34) (p := 7) (by decide +kernel) (by decide +kernel) rfl c27 ?_
    refine fs_iload_n (k := 1) (p := 8) (by decide +kernel) rfl rfl ?_
    obtain ⟨q29, w28, h⟩ := fx_bd h
    refine fs_callS (idx := 190) (mj := 148) (na := 1) (mx := 1) (p := 11) (args := [.int x1]) (rest := []) (al2 := [some (.int x1)]) (by decide +kernel) rfl (by decide +kernel) rfl rfl rfl rfl rfl rfl rfl (by omega) (fun d' hd' => fe_148 (by omega) w28) rfl ?_
    by_cases c30 : (fx_b q29.1) = 0
    · rw [if_pos c30] at h
      refine fs_if_eq_t (off := 23) (t := 34) (by decide +kernel) (by decide +kernel) c30 ?_
      exact fe_199_34 hd _ _ _ _ _ _ _ h
    · rw [if_neg c30] at h
      refine fs_if_eq_f (off := 23) (t := 34) (p := 14) (by decide +kernel) (by decide +kernel) rfl c30 ?_
      refine fs_aload_n (k := 0) (p := 15) (by decide +kernel) rfl rfl ?_
      refine fs_iload_n (k := 2) (p := 16) (by decide +kernel) rfl rfl ?_
      refine fs_iload_n (k := 3) (p := 17) (by decide +kernel) rfl rfl ?_
      obtain ⟨q32, w31, h⟩ := fx_bd h
      refine fs_callV (idx := 346) (mj := 198) (ci := 10) (na := 2) (mx := 3) (p := 20) (args := [.ref 215, .int x2, .int x3]) (rest := []) (al2 := [some (.ref 215), some (.int x2), some (.int x3)]) (by decide +kernel) rfl (by decide +kernel) fo_215 rfl rfl rfl rfl rfl rfl rfl (by omega) (fun d' hd' => fe_198 (by omega) w31) rfl ?_
      by_cases c33 : (fx_b q32.1) = 0
      · rw [if_pos c33] at h
        refine fs_if_eq_t (off := 14) (t := 34) (by decide +kernel) (by decide +kernel) c33 ?_
        exact fe_199_34 hd _ _ _ _ _ _ _ h
      · rw [if_neg c33] at h
        refine fs_if_eq_f (off := 14) (t := 34) (p := 23) (by decide +kernel) (by decide +kernel) rfl c33 ?_
        refine fs_iload (k := 4) (p := 25) (by decide +kernel) rfl rfl ?_
        refine fs_i2l (p := 26) (by decide +kernel) rfl ?_
        refine fs_lconst (n := 0) (p := 27) (by decide +kernel) rfl kl_0 ?_
        refine fs_lconst (n := 1) (p := 28) (by decide +kernel) rfl kl_1 ?_
        obtain ⟨q36, w35, h⟩ := fx_bd h
        refine fs_callS (idx := 128) (mj := 130) (na := 3) (mx := 6) (p := 31) (args := [.long (x4).toInt64, .long (0 : Int64), .long (1 : Int64)]) (rest := []) (al2 := [some (.long (x4).toInt64), none, some (.long (0 : Int64)), none, some (.long (1 : Int64)), none]) (by decide +kernel) rfl (by decide +kernel) rfl rfl rfl rfl rfl rfl rfl (by omega) (fun d' hd' => fe_130 (by omega) w35) rfl ?_
        by_cases c37 : ¬ (fx_b q36.1) = 0
        · rw [if_pos c37] at h
          refine fs_if_ne_t (off := 7) (t := 38) (by decide +kernel) (by decide +kernel) c37 ?_
          refine fs_aload_n (k := 0) (p := 39) (by decide +kernel) rfl rfl ?_
          refine fs_iload_n (k := 1) (p := 40) (by decide +kernel) rfl rfl ?_
          obtain ⟨q39, w38, h⟩ := fx_bd h
          refine fs_callV (idx := 349) (mj := 197) (ci := 10) (na := 1) (mx := 5) (p := 43) (args := [.ref 215, .int x1]) (rest := []) (al2 := [some (.ref 215), some (.int x1), none, none, none]) (by decide +kernel) rfl (by decide +kernel) fo_215 rfl rfl rfl rfl rfl rfl rfl (by omega) (fun d' hd' => fe_197 (by omega) w38) rfl ?_
          refine fs_aload_n (k := 0) (p := 44) (by decide +kernel) rfl rfl ?_
          refine fs_gfr (idx := 9) (ci := 10) (j := 0) (p := 47) (by decide +kernel) rfl (by decide +kernel) fo_215 (fr_a215_0) ?_
          refine fs_iconst (n := 1) (p := 48) (by decide +kernel) rfl kc_1 ?_
          obtain ⟨v40, w41, h⟩ := fx_bd h
          refine fs_iaload (p := 49) (by decide +kernel) rfl w41 ?_
          refine fs_iload_n (k := 2) (p := 50) (by decide +kernel) rfl rfl ?_
          refine fs_imul (p := 51) (by decide +kernel) rfl ?_
          refine fs_iload_n (k := 3) (p := 52) (by decide +kernel) rfl rfl ?_
          refine fs_iadd (p := 53) (by decide +kernel) rfl ?_
          refine fs_istore (k := 5) (p := 55) (M := 6) (al' := [some (.ref 215), some (.int x1), some (.int x2), some (.int x3), some (.int x4), some (.int ((v40 * x2) + x3))]) (by decide +kernel) rfl mx_199 rfl rfl ?_
          refine fs_aload_n (k := 0) (p := 56) (by decide +kernel) rfl rfl ?_
          refine fs_gfr (idx := 85) (ci := 10) (j := 35) (p := 59) (by decide +kernel) rfl (by decide +kernel) fo_215 (fr_a215_35) ?_
          refine fs_iload (k := 5) (p := 61) (by decide +kernel) rfl rfl ?_
          obtain ⟨v42, w43, h⟩ := fx_bd h
          refine fs_laload (p := 62) (by decide +kernel) rfl w43 ?_
          refine fs_aload_n (k := 0) (p := 63) (by decide +kernel) rfl rfl ?_
          refine fs_gfr (idx := 88) (ci := 10) (j := 36) (p := 66) (by decide +kernel) rfl (by decide +kernel) fo_215 (fr_a215_36) ?_
          refine fs_iload (k := 5) (p := 68) (by decide +kernel) rfl rfl ?_
          obtain ⟨v45, w46, h⟩ := fx_bd h
          refine fs_laload (p := 69) (by decide +kernel) rfl w46 ?_
          refine fs_iload (k := 4) (p := 71) (by decide +kernel) rfl rfl ?_
          obtain ⟨q48, w47, h⟩ := fx_bd h
          refine fs_callS (idx := 342) (mj := 194) (na := 3) (mx := 7) (p := 74) (args := [.long v42, .long v45, .int x4]) (rest := []) (al2 := [some (.long v42), none, some (.long v45), none, some (.int x4), none, none]) (by decide +kernel) rfl (by decide +kernel) rfl rfl rfl rfl rfl rfl rfl (by omega) (fun d' hd' => fe_194 (by omega) w47) rfl ?_
          have h := Option.some.inj h
          subst h
          exact fs_lret (by decide +kernel) rt_199
        · rw [if_neg c37] at h
          refine fs_if_ne_f (off := 7) (t := 38) (p := 34) (by decide +kernel) (by decide +kernel) rfl c37 ?_
          exact fe_199_34 hd _ _ _ _ _ _ _ h

/-! ZoneSharesModel.isAhead(II)Z -/
theorem mx_200 : iv_mx 200 = 7 := by decide +kernel
theorem rt_200 : iv_rt 200 = some .boolean := by decide +kernel
def fm_200 (x1 : Int32) (x2 : Int32) (σ : fx_S) : Option (Bool × fx_S) :=
  (fx_ldl σ 240 x1).bind fun v18 =>
  (fx_ldl σ 241 x2).bind fun v21 =>
  (fx_ldl σ 240 x2).bind fun v24 =>
  (fx_ldl σ 241 x1).bind fun v26 =>
  if (v18 * v21) = (v24 * v26) then (
    if x2 ≤ x1 then (
      some (false, σ)) else (
      some (true, σ))) else (
    if (v18 * v21) ≤ (v24 * v26) then (
      some (false, σ)) else (
      some (true, σ)))
theorem fe_200 {d : Nat} (hd : 0 ≤ d) {x1 : Int32} {x2 : Int32} {σ : fx_S} {q : Bool × fx_S} (h : fm_200 x1 x2 σ = some q) : fx_E none 200 d 0 [some (.ref 215), some (.int x1), some (.int x2), none, none, none, none] [] σ (some (.int (fx_b q.1))) q.2 := by
  unfold fm_200 at h
  refine fs_aload_n (k := 0) (p := 1) (by decide +kernel) rfl rfl ?_
  refine fs_gfr (idx := 85) (ci := 10) (j := 35) (p := 4) (by decide +kernel) rfl (by decide +kernel) fo_215 (fr_a215_35) ?_
  refine fs_iload_n (k := 1) (p := 5) (by decide +kernel) rfl rfl ?_
  obtain ⟨v18, w19, h⟩ := fx_bd h
  refine fs_laload (p := 6) (by decide +kernel) rfl w19 ?_
  refine fs_aload_n (k := 0) (p := 7) (by decide +kernel) rfl rfl ?_
  refine fs_gfr (idx := 88) (ci := 10) (j := 36) (p := 10) (by decide +kernel) rfl (by decide +kernel) fo_215 (fr_a215_36) ?_
  refine fs_iload_n (k := 2) (p := 11) (by decide +kernel) rfl rfl ?_
  obtain ⟨v21, w22, h⟩ := fx_bd h
  refine fs_laload (p := 12) (by decide +kernel) rfl w22 ?_
  refine fs_lmul (p := 13) (by decide +kernel) rfl ?_
  refine fs_lstore_n (k := 3) (p := 14) (M := 7) (al' := [some (.ref 215), some (.int x1), some (.int x2), some (.long (v18 * v21)), none, none, none]) (by decide +kernel) rfl mx_200 rfl rfl ?_
  refine fs_aload_n (k := 0) (p := 15) (by decide +kernel) rfl rfl ?_
  refine fs_gfr (idx := 85) (ci := 10) (j := 35) (p := 18) (by decide +kernel) rfl (by decide +kernel) fo_215 (fr_a215_35) ?_
  refine fs_iload_n (k := 2) (p := 19) (by decide +kernel) rfl rfl ?_
  obtain ⟨v24, w25, h⟩ := fx_bd h
  refine fs_laload (p := 20) (by decide +kernel) rfl w25 ?_
  refine fs_aload_n (k := 0) (p := 21) (by decide +kernel) rfl rfl ?_
  refine fs_gfr (idx := 88) (ci := 10) (j := 36) (p := 24) (by decide +kernel) rfl (by decide +kernel) fo_215 (fr_a215_36) ?_
  refine fs_iload_n (k := 1) (p := 25) (by decide +kernel) rfl rfl ?_
  obtain ⟨v26, w27, h⟩ := fx_bd h
  refine fs_laload (p := 26) (by decide +kernel) rfl w27 ?_
  refine fs_lmul (p := 27) (by decide +kernel) rfl ?_
  refine fs_lstore (k := 5) (p := 29) (M := 7) (al' := [some (.ref 215), some (.int x1), some (.int x2), some (.long (v18 * v21)), none, some (.long (v24 * v26)), none]) (by decide +kernel) rfl mx_200 rfl rfl ?_
  refine fs_lload_n (k := 3) (p := 30) (by decide +kernel) rfl rfl ?_
  refine fs_lload (k := 5) (p := 32) (by decide +kernel) rfl rfl ?_
  by_cases c30 : (v18 * v21) = (v24 * v26)
  · rw [if_pos c30] at h
    refine fs_lcmp_eq_t (off := 18) (t := 51) (by decide +kernel) (by decide +kernel) (by decide +kernel) c30 ?_
    refine fs_iload_n (k := 1) (p := 52) (by decide +kernel) rfl rfl ?_
    refine fs_iload_n (k := 2) (p := 53) (by decide +kernel) rfl rfl ?_
    by_cases c33 : x2 ≤ x1
    · rw [if_pos c33] at h
      refine fs_icmp_ge_t (off := 7) (t := 60) (by decide +kernel) (by decide +kernel) c33 ?_
      refine fs_iconst (n := 0) (p := 61) (by decide +kernel) rfl kc_0 ?_
      have h := Option.some.inj h
      subst h
      exact fs_zret (b := false) (by decide +kernel) rt_200
    · rw [if_neg c33] at h
      refine fs_icmp_ge_f (off := 7) (t := 60) (p := 56) (by decide +kernel) (by decide +kernel) rfl c33 ?_
      refine fs_iconst (n := 1) (p := 57) (by decide +kernel) rfl kc_1 ?_
      refine fs_goto (off := 4) (p := 61) (by decide +kernel) (by decide +kernel) ?_
      have h := Option.some.inj h
      subst h
      exact fs_zret (b := true) (by decide +kernel) rt_200
  · rw [if_neg c30] at h
    refine fs_lcmp_eq_f (off := 18) (t := 51) (p := 36) (by decide +kernel) (by decide +kernel) (by decide +kernel) rfl c30 ?_
    refine fs_lload_n (k := 3) (p := 37) (by decide +kernel) rfl rfl ?_
    refine fs_lload (k := 5) (p := 39) (by decide +kernel) rfl rfl ?_
    by_cases c34 : (v18 * v21) ≤ (v24 * v26)
    · rw [if_pos c34] at h
      refine fs_lcmp_le_t (off := 7) (t := 47) (by decide +kernel) (by decide +kernel) (by decide +kernel) c34 ?_
      refine fs_iconst (n := 0) (p := 48) (by decide +kernel) rfl kc_0 ?_
      refine fs_goto (off := 13) (p := 61) (by decide +kernel) (by decide +kernel) ?_
      have h := Option.some.inj h
      subst h
      exact fs_zret (b := false) (by decide +kernel) rt_200
    · rw [if_neg c34] at h
      refine fs_lcmp_le_f (off := 7) (t := 47) (p := 43) (by decide +kernel) (by decide +kernel) (by decide +kernel) rfl c34 ?_
      refine fs_iconst (n := 1) (p := 44) (by decide +kernel) rfl kc_1 ?_
      refine fs_goto (off := 17) (p := 61) (by decide +kernel) (by decide +kernel) ?_
      have h := Option.some.inj h
      subst h
      exact fs_zret (b := true) (by decide +kernel) rt_200

/-! ZoneSharesModel.densest(II)I -/
theorem mx_201 : iv_mx 201 = 6 := by decide +kernel
theorem rt_201 : iv_rt 201 = some .int := by decide +kernel
def fm_201_53 (k_39 : Int32 → Int32 → fx_S → Option (Int32 × fx_S)) : Nat → Int32 → Int32 → Int32 → Int32 → fx_S → Option (Int32 × fx_S)
  | 0, _, _, _, _, _ => none
  | n + 1, x2, x3, x4, x5, σ =>
    (fm_151 σ).bind fun q2 =>
    if q2.1 ≤ x5 then (
      if ¬ x4 = x2 then (
        k_39 x2 (x3 + (1 : Int32)) q2.2) else (
        (fx_ld q2.2 216 (1 : Int32)).bind fun v9 =>
        if ¬ v9 = 0 then (
        (fx_ld q2.2 216 (1 : Int32)).bind fun v13 =>
        if ¬ v13 = 0 then (
        some ((((12 : Int32) * (x3 / v9)) + (x3 - x3 / v13 * v13)), q2.2)) else none) else none)) else (
      (fm_200 x5 x3 q2.2).bind fun q17 =>
      (fm_131 (fx_b q17.1) q17.2).bind fun q19 =>
      fm_201_53 k_39 n x2 x3 (x4 + q19.1) (x5 + (1 : Int32)) q19.2)
theorem fe_201_53 {d : Nat} (hd : 6 ≤ d) {k_39 : Int32 → Int32 → fx_S → Option (Int32 × fx_S)} (hk_39 : ∀ (x2 : Int32) (x3 : Int32) (o1 : Option Value) (o4 : Option Value) (o5 : Option Value) (σ : fx_S) (q : Int32 × fx_S), k_39 x2 x3 σ = some q → fx_E none 201 d 39 [some (.ref 215), o1, some (.int x2), some (.int x3), o4, o5] [] σ (some (.int q.1)) q.2) : ∀ (n : Nat) (x2 : Int32) (x3 : Int32) (x4 : Int32) (x5 : Int32) (o1 : Option Value) (σ : fx_S) (q : Int32 × fx_S), fm_201_53 k_39 n x2 x3 x4 x5 σ = some q → fx_E none 201 d 53 [some (.ref 215), o1, some (.int x2), some (.int x3), some (.int x4), some (.int x5)] [] σ (some (.int q.1)) q.2 := by
  intro n
  induction n with
  | zero =>
    intro x2 x3 x4 x5 o1 σ q  h
    rw [fm_201_53] at h
    exact fx_no h
  | succ n ih =>
    intro x2 x3 x4 x5 o1 σ q  h
    rw [fm_201_53] at h
    refine fs_iload (k := 5) (p := 55) (by decide +kernel) rfl rfl ?_
    refine fs_aload_n (k := 0) (p := 56) (by decide +kernel) rfl rfl ?_
    obtain ⟨q2, w1, h⟩ := fx_bd h
    refine fs_callV (idx := 196) (mj := 151) (ci := 10) (na := 0) (mx := 1) (p := 59) (args := [.ref 215]) (rest := [.int x5]) (al2 := [some (.ref 215)]) (by decide +kernel) rfl (by decide +kernel) fo_215 rfl rfl rfl rfl rfl rfl rfl (by omega) (fun d' hd' => fe_151 (by omega) w1) rfl ?_
    by_cases c5 : q2.1 ≤ x5
    · rw [if_pos c5] at h
      refine fs_icmp_ge_t (off := 24) (t := 83) (by decide +kernel) (by decide +kernel) c5 ?_
      refine fs_iload (k := 4) (p := 85) (by decide +kernel) rfl rfl ?_
      refine fs_iload_n (k := 2) (p := 86) (by decide +kernel) rfl rfl ?_
      by_cases c8 : ¬ x4 = x2
      · rw [if_pos c8] at h
        refine fs_icmp_ne_t (off := 24) (t := 110) (by decide +kernel) (by decide +kernel) c8 ?_
        refine fs_iinc (k := 3) (n := 1) (p := 113) (M := 6) (al' := [some (.ref 215), o1, some (.int x2), some (.int (x3 + (1 : Int32))), some (.int x4), some (.int x5)]) (by decide +kernel) rfl kc_1 mx_201 rfl rfl rfl ?_
        refine fs_goto (off := -74) (p := 39) (by decide +kernel) (by decide +kernel) ?_
        exact hk_39 _ _ _ _ _ _ _ h
      · rw [if_neg c8] at h
        refine fs_icmp_ne_f (off := 24) (t := 110) (p := 89) (by decide +kernel) (by decide +kernel) rfl c8 ?_
        refine fs_bipush (n := 12) (p := 91) (by decide +kernel) rfl kb_12 ?_
        refine fs_iload_n (k := 3) (p := 92) (by decide +kernel) rfl rfl ?_
        refine fs_aload_n (k := 0) (p := 93) (by decide +kernel) rfl rfl ?_
        refine fs_gfr (idx := 9) (ci := 10) (j := 0) (p := 96) (by decide +kernel) rfl (by decide +kernel) fo_215 (fr_a215_0) ?_
        refine fs_iconst (n := 1) (p := 97) (by decide +kernel) rfl kc_1 ?_
        obtain ⟨v9, w10, h⟩ := fx_bd h
        refine fs_iaload (p := 98) (by decide +kernel) rfl w10 ?_
        obtain ⟨z12, h⟩ := fx_gd h
        refine fs_idiv (p := 99) (by decide +kernel) rfl z12 ?_
        refine fs_imul (p := 100) (by decide +kernel) rfl ?_
        refine fs_iload_n (k := 3) (p := 101) (by decide +kernel) rfl rfl ?_
        refine fs_aload_n (k := 0) (p := 102) (by decide +kernel) rfl rfl ?_
        refine fs_gfr (idx := 9) (ci := 10) (j := 0) (p := 105) (by decide +kernel) rfl (by decide +kernel) fo_215 (fr_a215_0) ?_
        refine fs_iconst (n := 1) (p := 106) (by decide +kernel) rfl kc_1 ?_
        obtain ⟨v13, w14, h⟩ := fx_bd h
        refine fs_iaload (p := 107) (by decide +kernel) rfl w14 ?_
        obtain ⟨z15, h⟩ := fx_gd h
        refine fs_irem (p := 108) (by decide +kernel) rfl z15 ?_
        refine fs_iadd (p := 109) (by decide +kernel) rfl ?_
        have h := Option.some.inj h
        subst h
        exact fs_iret (by decide +kernel) rt_201
    · rw [if_neg c5] at h
      refine fs_icmp_ge_f (off := 24) (t := 83) (p := 62) (by decide +kernel) (by decide +kernel) rfl c5 ?_
      refine fs_iload (k := 4) (p := 64) (by decide +kernel) rfl rfl ?_
      refine fs_aload_n (k := 0) (p := 65) (by decide +kernel) rfl rfl ?_
      refine fs_iload (k := 5) (p := 67) (by decide +kernel) rfl rfl ?_
      refine fs_iload_n (k := 3) (p := 68) (by decide +kernel) rfl rfl ?_
      obtain ⟨q17, w16, h⟩ := fx_bd h
      refine fs_callV (idx := 352) (mj := 200) (ci := 10) (na := 2) (mx := 7) (p := 71) (args := [.ref 215, .int x5, .int x3]) (rest := [.int x4]) (al2 := [some (.ref 215), some (.int x5), some (.int x3), none, none, none, none]) (by decide +kernel) rfl (by decide +kernel) fo_215 rfl rfl rfl rfl rfl rfl rfl (by omega) (fun d' hd' => fe_200 (by omega) w16) rfl ?_
      obtain ⟨q19, w18, h⟩ := fx_bd h
      refine fs_callS (idx := 186) (mj := 131) (na := 1) (mx := 1) (p := 74) (args := [.int (fx_b q17.1)]) (rest := [.int x4]) (al2 := [some (.int (fx_b q17.1))]) (by decide +kernel) rfl (by decide +kernel) rfl rfl rfl rfl rfl rfl rfl (by omega) (fun d' hd' => fe_131 (by omega) w18) rfl ?_
      refine fs_iadd (p := 75) (by decide +kernel) rfl ?_
      refine fs_istore (k := 4) (p := 77) (M := 6) (al' := [some (.ref 215), o1, some (.int x2), some (.int x3), some (.int (x4 + q19.1)), some (.int x5)]) (by decide +kernel) rfl mx_201 rfl rfl ?_
      refine fs_iinc (k := 5) (n := 1) (p := 80) (M := 6) (al' := [some (.ref 215), o1, some (.int x2), some (.int x3), some (.int (x4 + q19.1)), some (.int (x5 + (1 : Int32)))]) (by decide +kernel) rfl kc_1 mx_201 rfl rfl rfl ?_
      refine fs_goto (off := -27) (p := 53) (by decide +kernel) (by decide +kernel) ?_
      exact ih _ _ _ _ _ _ _ h
def fm_201_39 : Nat → Int32 → Int32 → fx_S → Option (Int32 × fx_S)
  | 0, _, _, _ => none
  | n + 1, x2, x3, σ =>
    (fm_151 σ).bind fun q2 =>
    if q2.1 ≤ x3 then (
      some ((-1 : Int32), q2.2)) else (
      fm_201_53 (fm_201_39 n) 100000 x2 x3 (0 : Int32) (0 : Int32) q2.2)
theorem fe_201_39 {d : Nat} (hd : 6 ≤ d) : ∀ (n : Nat) (x2 : Int32) (x3 : Int32) (o1 : Option Value) (o4 : Option Value) (o5 : Option Value) (σ : fx_S) (q : Int32 × fx_S), fm_201_39 n x2 x3 σ = some q → fx_E none 201 d 39 [some (.ref 215), o1, some (.int x2), some (.int x3), o4, o5] [] σ (some (.int q.1)) q.2 := by
  intro n
  induction n with
  | zero =>
    intro x2 x3 o1 o4 o5 σ q  h
    rw [fm_201_39] at h
    exact fx_no h
  | succ n ih =>
    intro x2 x3 o1 o4 o5 σ q  h
    rw [fm_201_39] at h
    refine fs_iload_n (k := 3) (p := 40) (by decide +kernel) rfl rfl ?_
    refine fs_aload_n (k := 0) (p := 41) (by decide +kernel) rfl rfl ?_
    obtain ⟨q2, w1, h⟩ := fx_bd h
    refine fs_callV (idx := 196) (mj := 151) (ci := 10) (na := 0) (mx := 1) (p := 44) (args := [.ref 215]) (rest := [.int x3]) (al2 := [some (.ref 215)]) (by decide +kernel) rfl (by decide +kernel) fo_215 rfl rfl rfl rfl rfl rfl rfl (by omega) (fun d' hd' => fe_151 (by omega) w1) rfl ?_
    by_cases c5 : q2.1 ≤ x3
    · rw [if_pos c5] at h
      refine fs_icmp_ge_t (off := 72) (t := 116) (by decide +kernel) (by decide +kernel) c5 ?_
      refine fs_iconst (n := -1) (p := 117) (by decide +kernel) rfl kc_m1 ?_
      have h := Option.some.inj h
      subst h
      exact fs_iret (by decide +kernel) rt_201
    · rw [if_neg c5] at h
      refine fs_icmp_ge_f (off := 72) (t := 116) (p := 47) (by decide +kernel) (by decide +kernel) rfl c5 ?_
      refine fs_iconst (n := 0) (p := 48) (by decide +kernel) rfl kc_0 ?_
      refine fs_istore (k := 4) (p := 50) (M := 6) (al' := [some (.ref 215), o1, some (.int x2), some (.int x3), some (.int (0 : Int32)), o5]) (by decide +kernel) rfl mx_201 rfl rfl ?_
      refine fs_iconst (n := 0) (p := 51) (by decide +kernel) rfl kc_0 ?_
      refine fs_istore (k := 5) (p := 53) (M := 6) (al' := [some (.ref 215), o1, some (.int x2), some (.int x3), some (.int (0 : Int32)), some (.int (0 : Int32))]) (by decide +kernel) rfl mx_201 rfl rfl ?_
      exact fe_201_53 hd ih 100000 _ _ _ _ _ _ _ h
def fm_201 (x1 : Int32) (x2 : Int32) (σ : fx_S) : Option (Int32 × fx_S) :=
  (fm_150 σ).bind fun q46 =>
  if (fx_b q46.1) = 0 then (
    some ((-1 : Int32), q46.2)) else (
    (fm_148 x1 q46.2).bind fun q49 =>
    if (fx_b q49.1) = 0 then (
      some ((-1 : Int32), q49.2)) else (
      (fm_151 q49.2).bind fun q53 =>
      (fm_130 (x2).toInt64 (0 : Int64) ((q53.1 - (1 : Int32))).toInt64 q53.2).bind fun q56 =>
      if ¬ (fx_b q56.1) = 0 then (
        (fm_197 x1 q56.2).bind fun q59 =>
        fm_201_39 100000 x2 (0 : Int32) q59) else (
        some ((-1 : Int32), q56.2))))
theorem fe_201 {d : Nat} (hd : 6 ≤ d) {x1 : Int32} {x2 : Int32} {σ : fx_S} {q : Int32 × fx_S} (h : fm_201 x1 x2 σ = some q) : fx_E none 201 d 0 [some (.ref 215), some (.int x1), some (.int x2), none, none, none] [] σ (some (.int q.1)) q.2 := by
  unfold fm_201 at h
  refine fs_aload_n (k := 0) (p := 1) (by decide +kernel) rfl rfl ?_
  obtain ⟨q46, w45, h⟩ := fx_bd h
  refine fs_callV (idx := 303) (mj := 150) (ci := 10) (na := 0) (mx := 1) (p := 4) (args := [.ref 215]) (rest := []) (al2 := [some (.ref 215)]) (by decide +kernel) rfl (by decide +kernel) fo_215 rfl rfl rfl rfl rfl rfl rfl (by omega) (fun d' hd' => fe_150 (by omega) w45) rfl ?_
  by_cases c47 : (fx_b q46.1) = 0
  · rw [if_pos c47] at h
    refine fs_if_eq_t (off := 26) (t := 30) (by decide +kernel) (by decide +kernel) c47 ?_
    refine fs_iconst (n := -1) (p := 31) (by decide +kernel) rfl kc_m1 ?_
    have h := Option.some.inj h
    subst h
    exact fs_iret (by decide +kernel) rt_201
  · rw [if_neg c47] at h
    refine fs_if_eq_f (off := 26) (t := 30) (p := 7) (by decide +kernel) (by decide +kernel) rfl c47 ?_
    refine fs_iload_n (k := 1) (p := 8) (by decide +kernel) rfl rfl ?_
    obtain ⟨q49, w48, h⟩ := fx_bd h
    refine fs_callS (idx := 190) (mj := 148) (na := 1) (mx := 1) (p := 11) (args := [.int x1]) (rest := []) (al2 := [some (.int x1)]) (by decide +kernel) rfl (by decide +kernel) rfl rfl rfl rfl rfl rfl rfl (by omega) (fun d' hd' => fe_148 (by omega) w48) rfl ?_
    by_cases c50 : (fx_b q49.1) = 0
    · rw [if_pos c50] at h
      refine fs_if_eq_t (off := 19) (t := 30) (by decide +kernel) (by decide +kernel) c50 ?_
      refine fs_iconst (n := -1) (p := 31) (by decide +kernel) rfl kc_m1 ?_
      have h := Option.some.inj h
      subst h
      exact fs_iret (by decide +kernel) rt_201
    · rw [if_neg c50] at h
      refine fs_if_eq_f (off := 19) (t := 30) (p := 14) (by decide +kernel) (by decide +kernel) rfl c50 ?_
      refine fs_iload_n (k := 2) (p := 15) (by decide +kernel) rfl rfl ?_
      refine fs_i2l (p := 16) (by decide +kernel) rfl ?_
      refine fs_lconst (n := 0) (p := 17) (by decide +kernel) rfl kl_0 ?_
      refine fs_aload_n (k := 0) (p := 18) (by decide +kernel) rfl rfl ?_
      obtain ⟨q53, w52, h⟩ := fx_bd h
      refine fs_callV (idx := 196) (mj := 151) (ci := 10) (na := 0) (mx := 1) (p := 21) (args := [.ref 215]) (rest := [.long (0 : Int64), .long (x2).toInt64]) (al2 := [some (.ref 215)]) (by decide +kernel) rfl (by decide +kernel) fo_215 rfl rfl rfl rfl rfl rfl rfl (by omega) (fun d' hd' => fe_151 (by omega) w52) rfl ?_
      refine fs_iconst (n := 1) (p := 22) (by decide +kernel) rfl kc_1 ?_
      refine fs_isub (p := 23) (by decide +kernel) rfl ?_
      refine fs_i2l (p := 24) (by decide +kernel) rfl ?_
      obtain ⟨q56, w55, h⟩ := fx_bd h
      refine fs_callS (idx := 128) (mj := 130) (na := 3) (mx := 6) (p := 27) (args := [.long (x2).toInt64, .long (0 : Int64), .long ((q53.1 - (1 : Int32))).toInt64]) (rest := []) (al2 := [some (.long (x2).toInt64), none, some (.long (0 : Int64)), none, some (.long ((q53.1 - (1 : Int32))).toInt64), none]) (by decide +kernel) rfl (by decide +kernel) rfl rfl rfl rfl rfl rfl rfl (by omega) (fun d' hd' => fe_130 (by omega) w55) rfl ?_
      by_cases c57 : ¬ (fx_b q56.1) = 0
      · rw [if_pos c57] at h
        refine fs_if_ne_t (off := 5) (t := 32) (by decide +kernel) (by decide +kernel) c57 ?_
        refine fs_aload_n (k := 0) (p := 33) (by decide +kernel) rfl rfl ?_
        refine fs_iload_n (k := 1) (p := 34) (by decide +kernel) rfl rfl ?_
        obtain ⟨q59, w58, h⟩ := fx_bd h
        refine fs_callV (idx := 349) (mj := 197) (ci := 10) (na := 1) (mx := 5) (p := 37) (args := [.ref 215, .int x1]) (rest := []) (al2 := [some (.ref 215), some (.int x1), none, none, none]) (by decide +kernel) rfl (by decide +kernel) fo_215 rfl rfl rfl rfl rfl rfl rfl (by omega) (fun d' hd' => fe_197 (by omega) w58) rfl ?_
        refine fs_iconst (n := 0) (p := 38) (by decide +kernel) rfl kc_0 ?_
        refine fs_istore_n (k := 3) (p := 39) (M := 6) (al' := [some (.ref 215), some (.int x1), some (.int x2), some (.int (0 : Int32)), none, none]) (by decide +kernel) rfl mx_201 rfl rfl ?_
        exact fe_201_39 hd 100000 _ _ _ _ _ _ _ h
      · rw [if_neg c57] at h
        refine fs_if_ne_f (off := 5) (t := 32) (p := 30) (by decide +kernel) (by decide +kernel) rfl c57 ?_
        refine fs_iconst (n := -1) (p := 31) (by decide +kernel) rfl kc_m1 ?_
        have h := Option.some.inj h
        subst h
        exact fs_iret (by decide +kernel) rt_201
end
section
/-! ZoneSharesModel.newCells(I)I -/
theorem mx_202 : iv_mx 202 = 4 := by decide +kernel
theorem rt_202 : iv_rt 202 = some .int := by decide +kernel
def fm_202_28 (k_4 : Int32 → Int32 → Int32 → fx_S → Option (Int32 × fx_S)) (x1 : Int32) (x3 : Int32) (s0 : Int32) (s1 : Int32) (σ : fx_S) : Option (Int32 × fx_S) :=
  (fm_131 s1 σ).bind fun q2 =>
  k_4 x1 (s0 + q2.1) (x3 + (1 : Int32)) q2.2
theorem fe_202_28 {d : Nat} (hd : 1 ≤ d) {k_4 : Int32 → Int32 → Int32 → fx_S → Option (Int32 × fx_S)} (hk_4 : ∀ (x1 : Int32) (x2 : Int32) (x3 : Int32) (σ : fx_S) (q : Int32 × fx_S), k_4 x1 x2 x3 σ = some q → fx_E none 202 d 4 [some (.ref 215), some (.int x1), some (.int x2), some (.int x3)] [] σ (some (.int q.1)) q.2) (x1 : Int32) (x3 : Int32) (s0 : Int32) (s1 : Int32) (o2 : Option Value) (σ : fx_S) (q : Int32 × fx_S) (h : fm_202_28 k_4  x1 x3 s0 s1 σ = some q) : fx_E none 202 d 28 [some (.ref 215), some (.int x1), o2, some (.int x3)] [.int s1, .int s0] σ (some (.int q.1)) q.2 := by
  unfold fm_202_28 at h
  obtain ⟨q2, w1, h⟩ := fx_bd h
  refine fs_callS (idx := 186) (mj := 131) (na := 1) (mx := 1) (p := 31) (args := [.int s1]) (rest := [.int s0]) (al2 := [some (.int s1)]) (by decide +kernel) rfl (by decide +kernel) rfl rfl rfl rfl rfl rfl rfl (by omega) (fun d' hd' => fe_131 (by omega) w1) rfl ?_
  refine fs_iadd (p := 32) (by decide +kernel) rfl ?_
  refine fs_istore_n (k := 2) (p := 33) (M := 4) (al' := [some (.ref 215), some (.int x1), some (.int (s0 + q2.1)), some (.int x3)]) (by decide +kernel) rfl mx_202 rfl rfl ?_
  refine fs_iinc (k := 3) (n := 1) (p := 36) (M := 4) (al' := [some (.ref 215), some (.int x1), some (.int (s0 + q2.1)), some (.int (x3 + (1 : Int32)))]) (by decide +kernel) rfl kc_1 mx_202 rfl rfl rfl ?_
  refine fs_goto (off := -32) (p := 4) (by decide +kernel) (by decide +kernel) ?_
  exact hk_4 _ _ _ _ _ h
def fm_202_4 : Nat → Int32 → Int32 → Int32 → fx_S → Option (Int32 × fx_S)
  | 0, _, _, _, _ => none
  | n + 1, x1, x2, x3, σ =>
    (fm_151 σ).bind fun q2 =>
    if q2.1 ≤ x3 then (
      some (x2, q2.2)) else (
      (fm_152 (1 : Int32) x3 q2.2).bind fun q7 =>
      if ¬ q7.1 = x1 then (
        fm_202_28 (fm_202_4 n) x1 x3 x2 (0 : Int32) q7.2) else (
        fm_202_28 (fm_202_4 n) x1 x3 x2 (1 : Int32) q7.2))
theorem fe_202_4 {d : Nat} (hd : 1 ≤ d) : ∀ (n : Nat) (x1 : Int32) (x2 : Int32) (x3 : Int32) (σ : fx_S) (q : Int32 × fx_S), fm_202_4 n x1 x2 x3 σ = some q → fx_E none 202 d 4 [some (.ref 215), some (.int x1), some (.int x2), some (.int x3)] [] σ (some (.int q.1)) q.2 := by
  intro n
  induction n with
  | zero =>
    intro x1 x2 x3 σ q  h
    rw [fm_202_4] at h
    exact fx_no h
  | succ n ih =>
    intro x1 x2 x3 σ q  h
    rw [fm_202_4] at h
    refine fs_iload_n (k := 3) (p := 5) (by decide +kernel) rfl rfl ?_
    refine fs_aload_n (k := 0) (p := 6) (by decide +kernel) rfl rfl ?_
    obtain ⟨q2, w1, h⟩ := fx_bd h
    refine fs_callV (idx := 196) (mj := 151) (ci := 10) (na := 0) (mx := 1) (p := 9) (args := [.ref 215]) (rest := [.int x3]) (al2 := [some (.ref 215)]) (by decide +kernel) rfl (by decide +kernel) fo_215 rfl rfl rfl rfl rfl rfl rfl (by omega) (fun d' hd' => fe_151 (by omega) w1) rfl ?_
    by_cases c5 : q2.1 ≤ x3
    · rw [if_pos c5] at h
      refine fs_icmp_ge_t (off := 30) (t := 39) (by decide +kernel) (by decide +kernel) c5 ?_
      refine fs_iload_n (k := 2) (p := 40) (by decide +kernel) rfl rfl ?_
      have h := Option.some.inj h
      subst h
      exact fs_iret (by decide +kernel) rt_202
    · rw [if_neg c5] at h
      refine fs_icmp_ge_f (off := 30) (t := 39) (p := 12) (by decide +kernel) (by decide +kernel) rfl c5 ?_
      refine fs_iload_n (k := 2) (p := 13) (by decide +kernel) rfl rfl ?_
      refine fs_aload_n (k := 0) (p := 14) (by decide +kernel) rfl rfl ?_
      refine fs_iconst (n := 1) (p := 15) (by decide +kernel) rfl kc_1 ?_
      refine fs_iload_n (k := 3) (p := 16) (by decide +kernel) rfl rfl ?_
      obtain ⟨q7, w6, h⟩ := fx_bd h
      refine fs_callV (idx := 199) (mj := 152) (ci := 10) (na := 2) (mx := 3) (p := 19) (args := [.ref 215, .int (1 : Int32), .int x3]) (rest := [.int x2]) (al2 := [some (.ref 215), some (.int (1 : Int32)), some (.int x3)]) (by decide +kernel) rfl (by decide +kernel) fo_215 rfl rfl rfl rfl rfl rfl rfl (by omega) (fun d' hd' => fe_152 (by omega) w6) rfl ?_
      refine fs_iload_n (k := 1) (p := 20) (by decide +kernel) rfl rfl ?_
      by_cases c10 : ¬ q7.1 = x1
      · rw [if_pos c10] at h
        refine fs_icmp_ne_t (off := 7) (t := 27) (by decide +kernel) (by decide +kernel) c10 ?_
        refine fs_iconst (n := 0) (p := 28) (by decide +kernel) rfl kc_0 ?_
        exact fe_202_28 hd ih _ _ _ _ _ _ _ h
      · rw [if_neg c10] at h
        refine fs_icmp_ne_f (off := 7) (t := 27) (p := 23) (by decide +kernel) (by decide +kernel) rfl c10 ?_
        refine fs_iconst (n := 1) (p := 24) (by decide +kernel) rfl kc_1 ?_
        refine fs_goto (off := 4) (p := 28) (by decide +kernel) (by decide +kernel) ?_
        exact fe_202_28 hd ih _ _ _ _ _ _ _ h
def fm_202 (x1 : Int32) (σ : fx_S) : Option (Int32 × fx_S) :=
  fm_202_4 100000 x1 (0 : Int32) (0 : Int32) σ
theorem fe_202 {d : Nat} (hd : 1 ≤ d) {x1 : Int32} {σ : fx_S} {q : Int32 × fx_S} (h : fm_202 x1 σ = some q) : fx_E none 202 d 0 [some (.ref 215), some (.int x1), none, none] [] σ (some (.int q.1)) q.2 := by
  unfold fm_202 at h
  refine fs_iconst (n := 0) (p := 1) (by decide +kernel) rfl kc_0 ?_
  refine fs_istore_n (k := 2) (p := 2) (M := 4) (al' := [some (.ref 215), some (.int x1), some (.int (0 : Int32)), none]) (by decide +kernel) rfl mx_202 rfl rfl ?_
  refine fs_iconst (n := 0) (p := 3) (by decide +kernel) rfl kc_0 ?_
  refine fs_istore_n (k := 3) (p := 4) (M := 4) (al' := [some (.ref 215), some (.int x1), some (.int (0 : Int32)), some (.int (0 : Int32))]) (by decide +kernel) rfl mx_202 rfl rfl ?_
  exact fe_202_4 hd 100000 _ _ _ _ _ h

/-! ZoneSharesModel.laysCellsOf(I)V -/
theorem mx_205 : iv_mx 205 = 3 := by decide +kernel
theorem rt_205 : iv_rt 205 = none := by decide +kernel
def fm_205_121 : Nat → Int32 → Int32 → fx_S → Option (fx_S)
  | 0, _, _, _ => none
  | n + 1, x1, x2, σ =>
    if (4 : Int32) ≤ x2 then (
      some σ) else (
      (fx_ld σ 216 (((32 : Int32) + ((4 : Int32) * x1)) + x2)).bind fun v3 =>
      (fx_st σ 243 x2 v3).bind fun t6 =>
      fm_205_121 n x1 (x2 + (1 : Int32)) t6)
theorem fe_205_121 {d : Nat} (hd : 2 ≤ d) : ∀ (n : Nat) (x1 : Int32) (x2 : Int32) (σ : fx_S) (q : fx_S), fm_205_121 n x1 x2 σ = some q → fx_E none 205 d 121 [some (.ref 215), some (.int x1), some (.int x2)] [] σ none q := by
  intro n
  induction n with
  | zero =>
    intro x1 x2 σ q  h
    rw [fm_205_121] at h
    exact fx_no h
  | succ n ih =>
    intro x1 x2 σ q  h
    rw [fm_205_121] at h
    refine fs_iload_n (k := 2) (p := 122) (by decide +kernel) rfl rfl ?_
    refine fs_iconst (n := 4) (p := 123) (by decide +kernel) rfl kc_4 ?_
    by_cases c2 : (4 : Int32) ≤ x2
    · rw [if_pos c2] at h
      refine fs_icmp_ge_t (off := 28) (t := 151) (by decide +kernel) (by decide +kernel) c2 ?_
      have h := Option.some.inj h
      subst h
      exact fs_ret (by decide +kernel) rt_205
    · rw [if_neg c2] at h
      refine fs_icmp_ge_f (off := 28) (t := 151) (p := 126) (by decide +kernel) (by decide +kernel) rfl c2 ?_
      refine fs_aload_n (k := 0) (p := 127) (by decide +kernel) rfl rfl ?_
      refine fs_gfr (idx := 94) (ci := 10) (j := 38) (p := 130) (by decide +kernel) rfl (by decide +kernel) fo_215 (fr_a215_38) ?_
      refine fs_iload_n (k := 2) (p := 131) (by decide +kernel) rfl rfl ?_
      refine fs_aload_n (k := 0) (p := 132) (by decide +kernel) rfl rfl ?_
      refine fs_gfr (idx := 9) (ci := 10) (j := 0) (p := 135) (by decide +kernel) rfl (by decide +kernel) fo_215 (fr_a215_0) ?_
      refine fs_bipush (n := 32) (p := 137) (by decide +kernel) rfl kb_32 ?_
      refine fs_iconst (n := 4) (p := 138) (by decide +kernel) rfl kc_4 ?_
      refine fs_iload_n (k := 1) (p := 139) (by decide +kernel) rfl rfl ?_
      refine fs_imul (p := 140) (by decide +kernel) rfl ?_
      refine fs_iadd (p := 141) (by decide +kernel) rfl ?_
      refine fs_iload_n (k := 2) (p := 142) (by decide +kernel) rfl rfl ?_
      refine fs_iadd (p := 143) (by decide +kernel) rfl ?_
      obtain ⟨v3, w4, h⟩ := fx_bd h
      refine fs_iaload (p := 144) (by decide +kernel) rfl w4 ?_
      obtain ⟨t6, w7, h⟩ := fx_bd h
      refine fs_iastore (p := 145) (by decide +kernel) rfl w7 ?_
      refine fs_iinc (k := 2) (n := 1) (p := 148) (M := 3) (al' := [some (.ref 215), some (.int x1), some (.int (x2 + (1 : Int32)))]) (by decide +kernel) rfl kc_1 mx_205 rfl rfl rfl ?_
      refine fs_goto (off := -27) (p := 121) (by decide +kernel) (by decide +kernel) ?_
      exact ih _ _ _ _ h
def fm_205_109 (k_79 : Int32 → Int32 → fx_S → Option (fx_S)) (x1 : Int32) (x2 : Int32) (s1 : Int32) (s2 : Int32) (σ : fx_S) : Option (fx_S) :=
  k_79 x1 (x2 + (1 : Int32)) (fx_w1 σ 215 42 (s1 + s2))
theorem fe_205_109 {d : Nat} (hd : 2 ≤ d) {k_79 : Int32 → Int32 → fx_S → Option (fx_S)} (hk_79 : ∀ (x1 : Int32) (x2 : Int32) (σ : fx_S) (q : fx_S), k_79 x1 x2 σ = some q → fx_E none 205 d 79 [some (.ref 215), some (.int x1), some (.int x2)] [] σ none q) (x1 : Int32) (x2 : Int32) (s1 : Int32) (s2 : Int32) (σ : fx_S) (q : fx_S) (h : fm_205_109 k_79  x1 x2 s1 s2 σ = some q) : fx_E none 205 d 109 [some (.ref 215), some (.int x1), some (.int x2)] [.int s2, .int s1, .ref 215] σ none q := by
  unfold fm_205_109 at h
  refine fs_iadd (p := 110) (by decide +kernel) rfl ?_
  refine fs_pfi (idx := 382) (ci := 10) (j := 42) (p := 113) (by decide +kernel) rfl (by decide +kernel) (by decide +kernel) fo_215 (fx_oki _ (by decide +kernel)) ?_
  refine fs_iinc (k := 2) (n := 1) (p := 116) (M := 3) (al' := [some (.ref 215), some (.int x1), some (.int (x2 + (1 : Int32)))]) (by decide +kernel) rfl kc_1 mx_205 rfl rfl rfl ?_
  refine fs_goto (off := -37) (p := 79) (by decide +kernel) (by decide +kernel) ?_
  exact hk_79 _ _ _ _ h
def fm_205_79 : Nat → Int32 → Int32 → fx_S → Option (fx_S)
  | 0, _, _, _ => none
  | n + 1, x1, x2, σ =>
    if (8 : Int32) ≤ x2 then (
      fm_205_121 100000 x1 (0 : Int32) σ) else (
      (fm_153 (0 : Int32) x2 σ).bind fun q4 =>
      if (fx_b q4.1) = 0 then (
        fm_205_109 (fm_205_79 n) x1 x2 (σ.1 215 42) (0 : Int32) q4.2) else (
        (fm_155 x1 x2 q4.2).bind fun q7 =>
        fm_205_109 (fm_205_79 n) x1 x2 (σ.1 215 42) q7.1 q7.2))
theorem fe_205_79 {d : Nat} (hd : 2 ≤ d) : ∀ (n : Nat) (x1 : Int32) (x2 : Int32) (σ : fx_S) (q : fx_S), fm_205_79 n x1 x2 σ = some q → fx_E none 205 d 79 [some (.ref 215), some (.int x1), some (.int x2)] [] σ none q := by
  intro n
  induction n with
  | zero =>
    intro x1 x2 σ q  h
    rw [fm_205_79] at h
    exact fx_no h
  | succ n ih =>
    intro x1 x2 σ q  h
    rw [fm_205_79] at h
    refine fs_iload_n (k := 2) (p := 80) (by decide +kernel) rfl rfl ?_
    refine fs_bipush (n := 8) (p := 82) (by decide +kernel) rfl kb_8 ?_
    by_cases c2 : (8 : Int32) ≤ x2
    · rw [if_pos c2] at h
      refine fs_icmp_ge_t (off := 37) (t := 119) (by decide +kernel) (by decide +kernel) c2 ?_
      refine fs_iconst (n := 0) (p := 120) (by decide +kernel) rfl kc_0 ?_
      refine fs_istore_n (k := 2) (p := 121) (M := 3) (al' := [some (.ref 215), some (.int x1), some (.int (0 : Int32))]) (by decide +kernel) rfl mx_205 rfl rfl ?_
      exact fe_205_121 hd 100000 _ _ _ _ h
    · rw [if_neg c2] at h
      refine fs_icmp_ge_f (off := 37) (t := 119) (p := 85) (by decide +kernel) (by decide +kernel) rfl c2 ?_
      refine fs_aload_n (k := 0) (p := 86) (by decide +kernel) rfl rfl ?_
      refine fs_dup (p := 87) (by decide +kernel) rfl rfl ?_
      refine fs_gfi (idx := 382) (ci := 10) (j := 42) (p := 90) (by decide +kernel) rfl (by decide +kernel) fo_215 ?_
      refine fs_aload_n (k := 0) (p := 91) (by decide +kernel) rfl rfl ?_
      refine fs_iconst (n := 0) (p := 92) (by decide +kernel) rfl kc_0 ?_
      refine fs_iload_n (k := 2) (p := 93) (by decide +kernel) rfl rfl ?_
      obtain ⟨q4, w3, h⟩ := fx_bd h
      refine fs_callV (idx := 202) (mj := 153) (ci := 10) (na := 2) (mx := 4) (p := 96) (args := [.ref 215, .int (0 : Int32), .int x2]) (rest := [.int (σ.1 215 42), .ref 215]) (al2 := [some (.ref 215), some (.int (0 : Int32)), some (.int x2), none]) (by decide +kernel) rfl (by decide +kernel) fo_215 rfl rfl rfl rfl rfl rfl rfl (by omega) (fun d' hd' => fe_153 (by omega) w3) rfl ?_
      by_cases c5 : (fx_b q4.1) = 0
      · rw [if_pos c5] at h
        refine fs_if_eq_t (off := 12) (t := 108) (by decide +kernel) (by decide +kernel) c5 ?_
        refine fs_iconst (n := 0) (p := 109) (by decide +kernel) rfl kc_0 ?_
        exact fe_205_109 hd ih _ _ _ _ _ _ h
      · rw [if_neg c5] at h
        refine fs_if_eq_f (off := 12) (t := 108) (p := 99) (by decide +kernel) (by decide +kernel) rfl c5 ?_
        refine fs_aload_n (k := 0) (p := 100) (by decide +kernel) rfl rfl ?_
        refine fs_iload_n (k := 1) (p := 101) (by decide +kernel) rfl rfl ?_
        refine fs_iload_n (k := 2) (p := 102) (by decide +kernel) rfl rfl ?_
        obtain ⟨q7, w6, h⟩ := fx_bd h
        refine fs_callV (idx := 264) (mj := 155) (ci := 10) (na := 2) (mx := 3) (p := 105) (args := [.ref 215, .int x1, .int x2]) (rest := [.int (σ.1 215 42), .ref 215]) (al2 := [some (.ref 215), some (.int x1), some (.int x2)]) (by decide +kernel) rfl (by decide +kernel) fo_215 rfl rfl rfl rfl rfl rfl rfl (by omega) (fun d' hd' => fe_155 (by omega) w6) rfl ?_
        refine fs_goto (off := 4) (p := 109) (by decide +kernel) (by decide +kernel) ?_
        exact fe_205_109 hd ih _ _ _ _ _ _ h
def fm_205_66 (k_23 : Int32 → Int32 → fx_S → Option (fx_S)) (x1 : Int32) (x2 : Int32) (σ : fx_S) : Option (fx_S) :=
  k_23 x1 (x2 + (1 : Int32)) σ
theorem fe_205_66 {d : Nat} (hd : 2 ≤ d) {k_23 : Int32 → Int32 → fx_S → Option (fx_S)} (hk_23 : ∀ (x1 : Int32) (x2 : Int32) (σ : fx_S) (q : fx_S), k_23 x1 x2 σ = some q → fx_E none 205 d 23 [some (.ref 215), some (.int x1), some (.int x2)] [] σ none q) (x1 : Int32) (x2 : Int32) (σ : fx_S) (q : fx_S) (h : fm_205_66 k_23  x1 x2 σ = some q) : fx_E none 205 d 66 [some (.ref 215), some (.int x1), some (.int x2)] [] σ none q := by
  unfold fm_205_66 at h
  refine fs_iinc (k := 2) (n := 1) (p := 69) (M := 3) (al' := [some (.ref 215), some (.int x1), some (.int (x2 + (1 : Int32)))]) (by decide +kernel) rfl kc_1 mx_205 rfl rfl rfl ?_
  refine fs_goto (off := -46) (p := 23) (by decide +kernel) (by decide +kernel) ?_
  exact hk_23 _ _ _ _ h
def fm_205_23 : Nat → Int32 → Int32 → fx_S → Option (fx_S)
  | 0, _, _, _ => none
  | n + 1, x1, x2, σ =>
    (fm_151 σ).bind fun q2 =>
    if q2.1 ≤ x2 then (
      fm_205_79 100000 x1 (0 : Int32) (fx_w1 q2.2 215 42 (0 : Int32))) else (
      (fm_152 (0 : Int32) x2 q2.2).bind fun q7 =>
      if q7.1 = (8 : Int32) then (
        fm_205_66 (fm_205_23 n) x1 x2 q7.2) else (
        (fm_152 (0 : Int32) x2 q7.2).bind fun q11 =>
        (fm_152 (2 : Int32) x2 q11.2).bind fun q13 =>
        (fx_ld q13.2 242 (((4 : Int32) * q11.1) + q13.1)).bind fun v14 =>
        (fx_st q13.2 242 (((4 : Int32) * q11.1) + q13.1) (v14 + (1 : Int32))).bind fun t17 =>
        fm_205_66 (fm_205_23 n) x1 x2 t17))
theorem fe_205_23 {d : Nat} (hd : 2 ≤ d) : ∀ (n : Nat) (x1 : Int32) (x2 : Int32) (σ : fx_S) (q : fx_S), fm_205_23 n x1 x2 σ = some q → fx_E none 205 d 23 [some (.ref 215), some (.int x1), some (.int x2)] [] σ none q := by
  intro n
  induction n with
  | zero =>
    intro x1 x2 σ q  h
    rw [fm_205_23] at h
    exact fx_no h
  | succ n ih =>
    intro x1 x2 σ q  h
    rw [fm_205_23] at h
    refine fs_iload_n (k := 2) (p := 24) (by decide +kernel) rfl rfl ?_
    refine fs_aload_n (k := 0) (p := 25) (by decide +kernel) rfl rfl ?_
    obtain ⟨q2, w1, h⟩ := fx_bd h
    refine fs_callV (idx := 196) (mj := 151) (ci := 10) (na := 0) (mx := 1) (p := 28) (args := [.ref 215]) (rest := [.int x2]) (al2 := [some (.ref 215)]) (by decide +kernel) rfl (by decide +kernel) fo_215 rfl rfl rfl rfl rfl rfl rfl (by omega) (fun d' hd' => fe_151 (by omega) w1) rfl ?_
    by_cases c5 : q2.1 ≤ x2
    · rw [if_pos c5] at h
      refine fs_icmp_ge_t (off := 44) (t := 72) (by decide +kernel) (by decide +kernel) c5 ?_
      refine fs_aload_n (k := 0) (p := 73) (by decide +kernel) rfl rfl ?_
      refine fs_iconst (n := 0) (p := 74) (by decide +kernel) rfl kc_0 ?_
      refine fs_pfi (idx := 382) (ci := 10) (j := 42) (p := 77) (by decide +kernel) rfl (by decide +kernel) (by decide +kernel) fo_215 (fx_oki _ (by decide +kernel)) ?_
      refine fs_iconst (n := 0) (p := 78) (by decide +kernel) rfl kc_0 ?_
      refine fs_istore_n (k := 2) (p := 79) (M := 3) (al' := [some (.ref 215), some (.int x1), some (.int (0 : Int32))]) (by decide +kernel) rfl mx_205 rfl rfl ?_
      exact fe_205_79 hd 100000 _ _ _ _ h
    · rw [if_neg c5] at h
      refine fs_icmp_ge_f (off := 44) (t := 72) (p := 31) (by decide +kernel) (by decide +kernel) rfl c5 ?_
      refine fs_aload_n (k := 0) (p := 32) (by decide +kernel) rfl rfl ?_
      refine fs_iconst (n := 0) (p := 33) (by decide +kernel) rfl kc_0 ?_
      refine fs_iload_n (k := 2) (p := 34) (by decide +kernel) rfl rfl ?_
      obtain ⟨q7, w6, h⟩ := fx_bd h
      refine fs_callV (idx := 199) (mj := 152) (ci := 10) (na := 2) (mx := 3) (p := 37) (args := [.ref 215, .int (0 : Int32), .int x2]) (rest := []) (al2 := [some (.ref 215), some (.int (0 : Int32)), some (.int x2)]) (by decide +kernel) rfl (by decide +kernel) fo_215 rfl rfl rfl rfl rfl rfl rfl (by omega) (fun d' hd' => fe_152 (by omega) w6) rfl ?_
      refine fs_bipush (n := 8) (p := 39) (by decide +kernel) rfl kb_8 ?_
      by_cases c9 : q7.1 = (8 : Int32)
      · rw [if_pos c9] at h
        refine fs_icmp_eq_t (off := 27) (t := 66) (by decide +kernel) (by decide +kernel) c9 ?_
        exact fe_205_66 hd ih _ _ _ _ h
      · rw [if_neg c9] at h
        refine fs_icmp_eq_f (off := 27) (t := 66) (p := 42) (by decide +kernel) (by decide +kernel) rfl c9 ?_
        refine fs_aload_n (k := 0) (p := 43) (by decide +kernel) rfl rfl ?_
        refine fs_gfr (idx := 91) (ci := 10) (j := 37) (p := 46) (by decide +kernel) rfl (by decide +kernel) fo_215 (fr_a215_37) ?_
        refine fs_iconst (n := 4) (p := 47) (by decide +kernel) rfl kc_4 ?_
        refine fs_aload_n (k := 0) (p := 48) (by decide +kernel) rfl rfl ?_
        refine fs_iconst (n := 0) (p := 49) (by decide +kernel) rfl kc_0 ?_
        refine fs_iload_n (k := 2) (p := 50) (by decide +kernel) rfl rfl ?_
        obtain ⟨q11, w10, h⟩ := fx_bd h
        refine fs_callV (idx := 199) (mj := 152) (ci := 10) (na := 2) (mx := 3) (p := 53) (args := [.ref 215, .int (0 : Int32), .int x2]) (rest := [.int (4 : Int32), .ref 242]) (al2 := [some (.ref 215), some (.int (0 : Int32)), some (.int x2)]) (by decide +kernel) rfl (by decide +kernel) fo_215 rfl rfl rfl rfl rfl rfl rfl (by omega) (fun d' hd' => fe_152 (by omega) w10) rfl ?_
        refine fs_imul (p := 54) (by decide +kernel) rfl ?_
        refine fs_aload_n (k := 0) (p := 55) (by decide +kernel) rfl rfl ?_
        refine fs_iconst (n := 2) (p := 56) (by decide +kernel) rfl kc_2 ?_
        refine fs_iload_n (k := 2) (p := 57) (by decide +kernel) rfl rfl ?_
        obtain ⟨q13, w12, h⟩ := fx_bd h
        refine fs_callV (idx := 199) (mj := 152) (ci := 10) (na := 2) (mx := 3) (p := 60) (args := [.ref 215, .int (2 : Int32), .int x2]) (rest := [.int ((4 : Int32) * q11.1), .ref 242]) (al2 := [some (.ref 215), some (.int (2 : Int32)), some (.int x2)]) (by decide +kernel) rfl (by decide +kernel) fo_215 rfl rfl rfl rfl rfl rfl rfl (by omega) (fun d' hd' => fe_152 (by omega) w12) rfl ?_
        refine fs_iadd (p := 61) (by decide +kernel) rfl ?_
        refine fs_dup2 (p := 62) (by decide +kernel) rfl rfl rfl ?_
        obtain ⟨v14, w15, h⟩ := fx_bd h
        refine fs_iaload (p := 63) (by decide +kernel) rfl w15 ?_
        refine fs_iconst (n := 1) (p := 64) (by decide +kernel) rfl kc_1 ?_
        refine fs_iadd (p := 65) (by decide +kernel) rfl ?_
        obtain ⟨t17, w18, h⟩ := fx_bd h
        refine fs_iastore (p := 66) (by decide +kernel) rfl w18 ?_
        exact fe_205_66 hd ih _ _ _ _ h
def fm_205_2 : Nat → Int32 → Int32 → fx_S → Option (fx_S)
  | 0, _, _, _ => none
  | n + 1, x1, x2, σ =>
    if (32 : Int32) ≤ x2 then (
      fm_205_23 100000 x1 (0 : Int32) σ) else (
      (fx_st σ 242 x2 (0 : Int32)).bind fun t3 =>
      fm_205_2 n x1 (x2 + (1 : Int32)) t3)
theorem fe_205_2 {d : Nat} (hd : 2 ≤ d) : ∀ (n : Nat) (x1 : Int32) (x2 : Int32) (σ : fx_S) (q : fx_S), fm_205_2 n x1 x2 σ = some q → fx_E none 205 d 2 [some (.ref 215), some (.int x1), some (.int x2)] [] σ none q := by
  intro n
  induction n with
  | zero =>
    intro x1 x2 σ q  h
    rw [fm_205_2] at h
    exact fx_no h
  | succ n ih =>
    intro x1 x2 σ q  h
    rw [fm_205_2] at h
    refine fs_iload_n (k := 2) (p := 3) (by decide +kernel) rfl rfl ?_
    refine fs_bipush (n := 32) (p := 5) (by decide +kernel) rfl kb_32 ?_
    by_cases c2 : (32 : Int32) ≤ x2
    · rw [if_pos c2] at h
      refine fs_icmp_ge_t (off := 16) (t := 21) (by decide +kernel) (by decide +kernel) c2 ?_
      refine fs_iconst (n := 0) (p := 22) (by decide +kernel) rfl kc_0 ?_
      refine fs_istore_n (k := 2) (p := 23) (M := 3) (al' := [some (.ref 215), some (.int x1), some (.int (0 : Int32))]) (by decide +kernel) rfl mx_205 rfl rfl ?_
      exact fe_205_23 hd 100000 _ _ _ _ h
    · rw [if_neg c2] at h
      refine fs_icmp_ge_f (off := 16) (t := 21) (p := 8) (by decide +kernel) (by decide +kernel) rfl c2 ?_
      refine fs_aload_n (k := 0) (p := 9) (by decide +kernel) rfl rfl ?_
      refine fs_gfr (idx := 91) (ci := 10) (j := 37) (p := 12) (by decide +kernel) rfl (by decide +kernel) fo_215 (fr_a215_37) ?_
      refine fs_iload_n (k := 2) (p := 13) (by decide +kernel) rfl rfl ?_
      refine fs_iconst (n := 0) (p := 14) (by decide +kernel) rfl kc_0 ?_
      obtain ⟨t3, w4, h⟩ := fx_bd h
      refine fs_iastore (p := 15) (by decide +kernel) rfl w4 ?_
      refine fs_iinc (k := 2) (n := 1) (p := 18) (M := 3) (al' := [some (.ref 215), some (.int x1), some (.int (x2 + (1 : Int32)))]) (by decide +kernel) rfl kc_1 mx_205 rfl rfl rfl ?_
      refine fs_goto (off := -16) (p := 2) (by decide +kernel) (by decide +kernel) ?_
      exact ih _ _ _ _ h
def fm_205 (x1 : Int32) (σ : fx_S) : Option (fx_S) :=
  fm_205_2 100000 x1 (0 : Int32) σ
theorem fe_205 {d : Nat} (hd : 2 ≤ d) {x1 : Int32} {σ : fx_S} {q : fx_S} (h : fm_205 x1 σ = some q) : fx_E none 205 d 0 [some (.ref 215), some (.int x1), none] [] σ none q := by
  unfold fm_205 at h
  refine fs_iconst (n := 0) (p := 1) (by decide +kernel) rfl kc_0 ?_
  refine fs_istore_n (k := 2) (p := 2) (M := 3) (al' := [some (.ref 215), some (.int x1), some (.int (0 : Int32))]) (by decide +kernel) rfl mx_205 rfl rfl ?_
  exact fe_205_2 hd 100000 _ _ _ _ h

/-! ZoneSharesModel.weighs(I)I -/
theorem mx_206 : iv_mx 206 = 4 := by decide +kernel
theorem rt_206 : iv_rt 206 = some .int := by decide +kernel
def fm_206_4 : Nat → Int32 → Int32 → Int32 → fx_S → Option (Int32 × fx_S)
  | 0, _, _, _, _ => none
  | n + 1, x1, x2, x3, σ =>
    if (4 : Int32) ≤ x3 then (
      some (x2, σ)) else (
      (fx_ld σ 243 x3).bind fun v3 =>
      (fx_ld σ 242 (((4 : Int32) * x1) + x3)).bind fun v6 =>
      fm_206_4 n x1 (x2 + (v3 * v6)) (x3 + (1 : Int32)) σ)
theorem fe_206_4 {d : Nat} (hd : 0 ≤ d) : ∀ (n : Nat) (x1 : Int32) (x2 : Int32) (x3 : Int32) (σ : fx_S) (q : Int32 × fx_S), fm_206_4 n x1 x2 x3 σ = some q → fx_E none 206 d 4 [some (.ref 215), some (.int x1), some (.int x2), some (.int x3)] [] σ (some (.int q.1)) q.2 := by
  intro n
  induction n with
  | zero =>
    intro x1 x2 x3 σ q  h
    rw [fm_206_4] at h
    exact fx_no h
  | succ n ih =>
    intro x1 x2 x3 σ q  h
    rw [fm_206_4] at h
    refine fs_iload_n (k := 3) (p := 5) (by decide +kernel) rfl rfl ?_
    refine fs_iconst (n := 4) (p := 6) (by decide +kernel) rfl kc_4 ?_
    by_cases c2 : (4 : Int32) ≤ x3
    · rw [if_pos c2] at h
      refine fs_icmp_ge_t (off := 29) (t := 35) (by decide +kernel) (by decide +kernel) c2 ?_
      refine fs_iload_n (k := 2) (p := 36) (by decide +kernel) rfl rfl ?_
      have h := Option.some.inj h
      subst h
      exact fs_iret (by decide +kernel) rt_206
    · rw [if_neg c2] at h
      refine fs_icmp_ge_f (off := 29) (t := 35) (p := 9) (by decide +kernel) (by decide +kernel) rfl c2 ?_
      refine fs_iload_n (k := 2) (p := 10) (by decide +kernel) rfl rfl ?_
      refine fs_aload_n (k := 0) (p := 11) (by decide +kernel) rfl rfl ?_
      refine fs_gfr (idx := 94) (ci := 10) (j := 38) (p := 14) (by decide +kernel) rfl (by decide +kernel) fo_215 (fr_a215_38) ?_
      refine fs_iload_n (k := 3) (p := 15) (by decide +kernel) rfl rfl ?_
      obtain ⟨v3, w4, h⟩ := fx_bd h
      refine fs_iaload (p := 16) (by decide +kernel) rfl w4 ?_
      refine fs_aload_n (k := 0) (p := 17) (by decide +kernel) rfl rfl ?_
      refine fs_gfr (idx := 91) (ci := 10) (j := 37) (p := 20) (by decide +kernel) rfl (by decide +kernel) fo_215 (fr_a215_37) ?_
      refine fs_iconst (n := 4) (p := 21) (by decide +kernel) rfl kc_4 ?_
      refine fs_iload_n (k := 1) (p := 22) (by decide +kernel) rfl rfl ?_
      refine fs_imul (p := 23) (by decide +kernel) rfl ?_
      refine fs_iload_n (k := 3) (p := 24) (by decide +kernel) rfl rfl ?_
      refine fs_iadd (p := 25) (by decide +kernel) rfl ?_
      obtain ⟨v6, w7, h⟩ := fx_bd h
      refine fs_iaload (p := 26) (by decide +kernel) rfl w7 ?_
      refine fs_imul (p := 27) (by decide +kernel) rfl ?_
      refine fs_iadd (p := 28) (by decide +kernel) rfl ?_
      refine fs_istore_n (k := 2) (p := 29) (M := 4) (al' := [some (.ref 215), some (.int x1), some (.int (x2 + (v3 * v6))), some (.int x3)]) (by decide +kernel) rfl mx_206 rfl rfl ?_
      refine fs_iinc (k := 3) (n := 1) (p := 32) (M := 4) (al' := [some (.ref 215), some (.int x1), some (.int (x2 + (v3 * v6))), some (.int (x3 + (1 : Int32)))]) (by decide +kernel) rfl kc_1 mx_206 rfl rfl rfl ?_
      refine fs_goto (off := -28) (p := 4) (by decide +kernel) (by decide +kernel) ?_
      exact ih _ _ _ _ _ h
def fm_206 (x1 : Int32) (σ : fx_S) : Option (Int32 × fx_S) :=
  fm_206_4 100000 x1 (0 : Int32) (0 : Int32) σ
theorem fe_206 {d : Nat} (hd : 0 ≤ d) {x1 : Int32} {σ : fx_S} {q : Int32 × fx_S} (h : fm_206 x1 σ = some q) : fx_E none 206 d 0 [some (.ref 215), some (.int x1), none, none] [] σ (some (.int q.1)) q.2 := by
  unfold fm_206 at h
  refine fs_iconst (n := 0) (p := 1) (by decide +kernel) rfl kc_0 ?_
  refine fs_istore_n (k := 2) (p := 2) (M := 4) (al' := [some (.ref 215), some (.int x1), some (.int (0 : Int32)), none]) (by decide +kernel) rfl mx_206 rfl rfl ?_
  refine fs_iconst (n := 0) (p := 3) (by decide +kernel) rfl kc_0 ?_
  refine fs_istore_n (k := 3) (p := 4) (M := 4) (al' := [some (.ref 215), some (.int x1), some (.int (0 : Int32)), some (.int (0 : Int32))]) (by decide +kernel) rfl mx_206 rfl rfl ?_
  exact fe_206_4 hd 100000 _ _ _ _ _ h

/-! ZoneSharesModel.landCells(I)I -/
theorem mx_207 : iv_mx 207 = 4 := by decide +kernel
theorem rt_207 : iv_rt 207 = some .int := by decide +kernel
def fm_207_4 : Nat → Int32 → Int32 → Int32 → fx_S → Option (Int32 × fx_S)
  | 0, _, _, _, _ => none
  | n + 1, x1, x2, x3, σ =>
    if (8 : Int32) ≤ x3 then (
      some (x2, σ)) else (
      (fx_ld σ 242 (((4 : Int32) * x3) + x1)).bind fun v3 =>
      fm_207_4 n x1 (x2 + v3) (x3 + (1 : Int32)) σ)
theorem fe_207_4 {d : Nat} (hd : 0 ≤ d) : ∀ (n : Nat) (x1 : Int32) (x2 : Int32) (x3 : Int32) (σ : fx_S) (q : Int32 × fx_S), fm_207_4 n x1 x2 x3 σ = some q → fx_E none 207 d 4 [some (.ref 215), some (.int x1), some (.int x2), some (.int x3)] [] σ (some (.int q.1)) q.2 := by
  intro n
  induction n with
  | zero =>
    intro x1 x2 x3 σ q  h
    rw [fm_207_4] at h
    exact fx_no h
  | succ n ih =>
    intro x1 x2 x3 σ q  h
    rw [fm_207_4] at h
    refine fs_iload_n (k := 3) (p := 5) (by decide +kernel) rfl rfl ?_
    refine fs_bipush (n := 8) (p := 7) (by decide +kernel) rfl kb_8 ?_
    by_cases c2 : (8 : Int32) ≤ x3
    · rw [if_pos c2] at h
      refine fs_icmp_ge_t (off := 22) (t := 29) (by decide +kernel) (by decide +kernel) c2 ?_
      refine fs_iload_n (k := 2) (p := 30) (by decide +kernel) rfl rfl ?_
      have h := Option.some.inj h
      subst h
      exact fs_iret (by decide +kernel) rt_207
    · rw [if_neg c2] at h
      refine fs_icmp_ge_f (off := 22) (t := 29) (p := 10) (by decide +kernel) (by decide +kernel) rfl c2 ?_
      refine fs_iload_n (k := 2) (p := 11) (by decide +kernel) rfl rfl ?_
      refine fs_aload_n (k := 0) (p := 12) (by decide +kernel) rfl rfl ?_
      refine fs_gfr (idx := 91) (ci := 10) (j := 37) (p := 15) (by decide +kernel) rfl (by decide +kernel) fo_215 (fr_a215_37) ?_
      refine fs_iconst (n := 4) (p := 16) (by decide +kernel) rfl kc_4 ?_
      refine fs_iload_n (k := 3) (p := 17) (by decide +kernel) rfl rfl ?_
      refine fs_imul (p := 18) (by decide +kernel) rfl ?_
      refine fs_iload_n (k := 1) (p := 19) (by decide +kernel) rfl rfl ?_
      refine fs_iadd (p := 20) (by decide +kernel) rfl ?_
      obtain ⟨v3, w4, h⟩ := fx_bd h
      refine fs_iaload (p := 21) (by decide +kernel) rfl w4 ?_
      refine fs_iadd (p := 22) (by decide +kernel) rfl ?_
      refine fs_istore_n (k := 2) (p := 23) (M := 4) (al' := [some (.ref 215), some (.int x1), some (.int (x2 + v3)), some (.int x3)]) (by decide +kernel) rfl mx_207 rfl rfl ?_
      refine fs_iinc (k := 3) (n := 1) (p := 26) (M := 4) (al' := [some (.ref 215), some (.int x1), some (.int (x2 + v3)), some (.int (x3 + (1 : Int32)))]) (by decide +kernel) rfl kc_1 mx_207 rfl rfl rfl ?_
      refine fs_goto (off := -22) (p := 4) (by decide +kernel) (by decide +kernel) ?_
      exact ih _ _ _ _ _ h
def fm_207 (x1 : Int32) (σ : fx_S) : Option (Int32 × fx_S) :=
  fm_207_4 100000 x1 (0 : Int32) (0 : Int32) σ
theorem fe_207 {d : Nat} (hd : 0 ≤ d) {x1 : Int32} {σ : fx_S} {q : Int32 × fx_S} (h : fm_207 x1 σ = some q) : fx_E none 207 d 0 [some (.ref 215), some (.int x1), none, none] [] σ (some (.int q.1)) q.2 := by
  unfold fm_207 at h
  refine fs_iconst (n := 0) (p := 1) (by decide +kernel) rfl kc_0 ?_
  refine fs_istore_n (k := 2) (p := 2) (M := 4) (al' := [some (.ref 215), some (.int x1), some (.int (0 : Int32)), none]) (by decide +kernel) rfl mx_207 rfl rfl ?_
  refine fs_iconst (n := 0) (p := 3) (by decide +kernel) rfl kc_0 ?_
  refine fs_istore_n (k := 3) (p := 4) (M := 4) (al' := [some (.ref 215), some (.int x1), some (.int (0 : Int32)), some (.int (0 : Int32))]) (by decide +kernel) rfl mx_207 rfl rfl ?_
  exact fe_207_4 hd 100000 _ _ _ _ _ h

/-! ZoneSharesModel.isOldCounted(I)Z -/
theorem mx_208 : iv_mx 208 = 4 := by decide +kernel
theorem rt_208 : iv_rt 208 = some .boolean := by decide +kernel
def fm_208_4 : Nat → Int32 → Int32 → Int32 → fx_S → Option (Bool × fx_S)
  | 0, _, _, _, _ => none
  | n + 1, x1, x2, x3, σ =>
    if (4 : Int32) ≤ x3 then (
      if x2 ≤ 0 then (
        some (false, σ)) else (
        some (true, σ))) else (
      (fx_ld σ 242 (((4 : Int32) * x1) + x3)).bind fun v5 =>
      fm_208_4 n x1 (x2 + v5) (x3 + (1 : Int32)) σ)
theorem fe_208_4 {d : Nat} (hd : 0 ≤ d) : ∀ (n : Nat) (x1 : Int32) (x2 : Int32) (x3 : Int32) (σ : fx_S) (q : Bool × fx_S), fm_208_4 n x1 x2 x3 σ = some q → fx_E none 208 d 4 [some (.ref 215), some (.int x1), some (.int x2), some (.int x3)] [] σ (some (.int (fx_b q.1))) q.2 := by
  intro n
  induction n with
  | zero =>
    intro x1 x2 x3 σ q  h
    rw [fm_208_4] at h
    exact fx_no h
  | succ n ih =>
    intro x1 x2 x3 σ q  h
    rw [fm_208_4] at h
    refine fs_iload_n (k := 3) (p := 5) (by decide +kernel) rfl rfl ?_
    refine fs_iconst (n := 4) (p := 6) (by decide +kernel) rfl kc_4 ?_
    by_cases c2 : (4 : Int32) ≤ x3
    · rw [if_pos c2] at h
      refine fs_icmp_ge_t (off := 22) (t := 28) (by decide +kernel) (by decide +kernel) c2 ?_
      refine fs_iload_n (k := 2) (p := 29) (by decide +kernel) rfl rfl ?_
      by_cases c4 : x2 ≤ 0
      · rw [if_pos c4] at h
        refine fs_if_le_t (off := 7) (t := 36) (by decide +kernel) (by decide +kernel) c4 ?_
        refine fs_iconst (n := 0) (p := 37) (by decide +kernel) rfl kc_0 ?_
        have h := Option.some.inj h
        subst h
        exact fs_zret (b := false) (by decide +kernel) rt_208
      · rw [if_neg c4] at h
        refine fs_if_le_f (off := 7) (t := 36) (p := 32) (by decide +kernel) (by decide +kernel) rfl c4 ?_
        refine fs_iconst (n := 1) (p := 33) (by decide +kernel) rfl kc_1 ?_
        refine fs_goto (off := 4) (p := 37) (by decide +kernel) (by decide +kernel) ?_
        have h := Option.some.inj h
        subst h
        exact fs_zret (b := true) (by decide +kernel) rt_208
    · rw [if_neg c2] at h
      refine fs_icmp_ge_f (off := 22) (t := 28) (p := 9) (by decide +kernel) (by decide +kernel) rfl c2 ?_
      refine fs_iload_n (k := 2) (p := 10) (by decide +kernel) rfl rfl ?_
      refine fs_aload_n (k := 0) (p := 11) (by decide +kernel) rfl rfl ?_
      refine fs_gfr (idx := 91) (ci := 10) (j := 37) (p := 14) (by decide +kernel) rfl (by decide +kernel) fo_215 (fr_a215_37) ?_
      refine fs_iconst (n := 4) (p := 15) (by decide +kernel) rfl kc_4 ?_
      refine fs_iload_n (k := 1) (p := 16) (by decide +kernel) rfl rfl ?_
      refine fs_imul (p := 17) (by decide +kernel) rfl ?_
      refine fs_iload_n (k := 3) (p := 18) (by decide +kernel) rfl rfl ?_
      refine fs_iadd (p := 19) (by decide +kernel) rfl ?_
      obtain ⟨v5, w6, h⟩ := fx_bd h
      refine fs_iaload (p := 20) (by decide +kernel) rfl w6 ?_
      refine fs_iadd (p := 21) (by decide +kernel) rfl ?_
      refine fs_istore_n (k := 2) (p := 22) (M := 4) (al' := [some (.ref 215), some (.int x1), some (.int (x2 + v5)), some (.int x3)]) (by decide +kernel) rfl mx_208 rfl rfl ?_
      refine fs_iinc (k := 3) (n := 1) (p := 25) (M := 4) (al' := [some (.ref 215), some (.int x1), some (.int (x2 + v5)), some (.int (x3 + (1 : Int32)))]) (by decide +kernel) rfl kc_1 mx_208 rfl rfl rfl ?_
      refine fs_goto (off := -21) (p := 4) (by decide +kernel) (by decide +kernel) ?_
      exact ih _ _ _ _ _ h
def fm_208 (x1 : Int32) (σ : fx_S) : Option (Bool × fx_S) :=
  fm_208_4 100000 x1 (0 : Int32) (0 : Int32) σ
theorem fe_208 {d : Nat} (hd : 0 ≤ d) {x1 : Int32} {σ : fx_S} {q : Bool × fx_S} (h : fm_208 x1 σ = some q) : fx_E none 208 d 0 [some (.ref 215), some (.int x1), none, none] [] σ (some (.int (fx_b q.1))) q.2 := by
  unfold fm_208 at h
  refine fs_iconst (n := 0) (p := 1) (by decide +kernel) rfl kc_0 ?_
  refine fs_istore_n (k := 2) (p := 2) (M := 4) (al' := [some (.ref 215), some (.int x1), some (.int (0 : Int32)), none]) (by decide +kernel) rfl mx_208 rfl rfl ?_
  refine fs_iconst (n := 0) (p := 3) (by decide +kernel) rfl kc_0 ?_
  refine fs_istore_n (k := 3) (p := 4) (M := 4) (al' := [some (.ref 215), some (.int x1), some (.int (0 : Int32)), some (.int (0 : Int32))]) (by decide +kernel) rfl mx_208 rfl rfl ?_
  exact fe_208_4 hd 100000 _ _ _ _ _ h

/-! ZoneSharesModel.laysMisfit(I)Z -/
theorem mx_209 : iv_mx 209 = 5 := by decide +kernel
theorem rt_209 : iv_rt 209 = some .boolean := by decide +kernel
def fm_209_93 (k_41 : Int32 → Int64 → Int32 → fx_S → Option (Bool × fx_S)) (x1 : Int32) (x2 : Int64) (x4 : Int32) (σ : fx_S) : Option (Bool × fx_S) :=
  k_41 x1 x2 (x4 + (1 : Int32)) σ
theorem fe_209_93 {d : Nat} (hd : 1 ≤ d) {k_41 : Int32 → Int64 → Int32 → fx_S → Option (Bool × fx_S)} (hk_41 : ∀ (x1 : Int32) (x2 : Int64) (x4 : Int32) (σ : fx_S) (q : Bool × fx_S), k_41 x1 x2 x4 σ = some q → fx_E none 209 d 41 [some (.ref 215), some (.int x1), some (.long x2), none, some (.int x4)] [] σ (some (.int (fx_b q.1))) q.2) (x1 : Int32) (x2 : Int64) (x4 : Int32) (σ : fx_S) (q : Bool × fx_S) (h : fm_209_93 k_41  x1 x2 x4 σ = some q) : fx_E none 209 d 93 [some (.ref 215), some (.int x1), some (.long x2), none, some (.int x4)] [] σ (some (.int (fx_b q.1))) q.2 := by
  unfold fm_209_93 at h
  refine fs_iinc (k := 4) (n := 1) (p := 96) (M := 5) (al' := [some (.ref 215), some (.int x1), some (.long x2), none, some (.int (x4 + (1 : Int32)))]) (by decide +kernel) rfl kc_1 mx_209 rfl rfl rfl ?_
  refine fs_goto (off := -55) (p := 41) (by decide +kernel) (by decide +kernel) ?_
  exact hk_41 _ _ _ _ _ h
def fm_209_41 : Nat → Int32 → Int64 → Int32 → fx_S → Option (Bool × fx_S)
  | 0, _, _, _, _ => none
  | n + 1, x1, x2, x4, σ =>
    if (8 : Int32) ≤ x4 then (
      if x2 ≤ (0 : Int64) then (
        some (false, σ)) else (
        some (true, σ))) else (
      (fm_208 x4 σ).bind fun q6 =>
      if (fx_b q6.1) = 0 then (
        fm_209_93 (fm_209_41 n) x1 x2 x4 q6.2) else (
        (fm_155 x1 x4 q6.2).bind fun q9 =>
        (fm_206 x4 q9.2).bind fun q13 =>
        fm_209_93 (fm_209_41 n) x1 x2 x4 (fx_w2 q13.2 215 40 ((q6.2.2 215 40) + (if 0 < (((q9.1).toInt64 * x2) - (((q9.2.1 215 42)).toInt64 * (q13.1).toInt64)) then (((q9.1).toInt64 * x2) - (((q9.2.1 215 42)).toInt64 * (q13.1).toInt64)) else -(((q9.1).toInt64 * x2) - (((q9.2.1 215 42)).toInt64 * (q13.1).toInt64)))))))
theorem fe_209_41 {d : Nat} (hd : 1 ≤ d) : ∀ (n : Nat) (x1 : Int32) (x2 : Int64) (x4 : Int32) (σ : fx_S) (q : Bool × fx_S), fm_209_41 n x1 x2 x4 σ = some q → fx_E none 209 d 41 [some (.ref 215), some (.int x1), some (.long x2), none, some (.int x4)] [] σ (some (.int (fx_b q.1))) q.2 := by
  intro n
  induction n with
  | zero =>
    intro x1 x2 x4 σ q  h
    rw [fm_209_41] at h
    exact fx_no h
  | succ n ih =>
    intro x1 x2 x4 σ q  h
    rw [fm_209_41] at h
    refine fs_iload (k := 4) (p := 43) (by decide +kernel) rfl rfl ?_
    refine fs_bipush (n := 8) (p := 45) (by decide +kernel) rfl kb_8 ?_
    by_cases c2 : (8 : Int32) ≤ x4
    · rw [if_pos c2] at h
      refine fs_icmp_ge_t (off := 54) (t := 99) (by decide +kernel) (by decide +kernel) c2 ?_
      refine fs_lload_n (k := 2) (p := 100) (by decide +kernel) rfl rfl ?_
      refine fs_lconst (n := 0) (p := 101) (by decide +kernel) rfl kl_0 ?_
      by_cases c4 : x2 ≤ (0 : Int64)
      · rw [if_pos c4] at h
        refine fs_lcmp_le_t (off := 7) (t := 109) (by decide +kernel) (by decide +kernel) (by decide +kernel) c4 ?_
        refine fs_iconst (n := 0) (p := 110) (by decide +kernel) rfl kc_0 ?_
        have h := Option.some.inj h
        subst h
        exact fs_zret (b := false) (by decide +kernel) rt_209
      · rw [if_neg c4] at h
        refine fs_lcmp_le_f (off := 7) (t := 109) (p := 105) (by decide +kernel) (by decide +kernel) (by decide +kernel) rfl c4 ?_
        refine fs_iconst (n := 1) (p := 106) (by decide +kernel) rfl kc_1 ?_
        refine fs_goto (off := 4) (p := 110) (by decide +kernel) (by decide +kernel) ?_
        have h := Option.some.inj h
        subst h
        exact fs_zret (b := true) (by decide +kernel) rt_209
    · rw [if_neg c2] at h
      refine fs_icmp_ge_f (off := 54) (t := 99) (p := 48) (by decide +kernel) (by decide +kernel) rfl c2 ?_
      refine fs_aload_n (k := 0) (p := 49) (by decide +kernel) rfl rfl ?_
      refine fs_iload (k := 4) (p := 51) (by decide +kernel) rfl rfl ?_
      obtain ⟨q6, w5, h⟩ := fx_bd h
      refine fs_callV (idx := 394) (mj := 208) (ci := 10) (na := 1) (mx := 4) (p := 54) (args := [.ref 215, .int x4]) (rest := []) (al2 := [some (.ref 215), some (.int x4), none, none]) (by decide +kernel) rfl (by decide +kernel) fo_215 rfl rfl rfl rfl rfl rfl rfl (by omega) (fun d' hd' => fe_208 (by omega) w5) rfl ?_
      by_cases c7 : (fx_b q6.1) = 0
      · rw [if_pos c7] at h
        refine fs_if_eq_t (off := 39) (t := 93) (by decide +kernel) (by decide +kernel) c7 ?_
        exact fe_209_93 hd ih _ _ _ _ _ h
      · rw [if_neg c7] at h
        refine fs_if_eq_f (off := 39) (t := 93) (p := 57) (by decide +kernel) (by decide +kernel) rfl c7 ?_
        refine fs_aload_n (k := 0) (p := 58) (by decide +kernel) rfl rfl ?_
        refine fs_dup (p := 59) (by decide +kernel) rfl rfl ?_
        refine fs_gfl (idx := 388) (ci := 10) (j := 40) (p := 62) (by decide +kernel) rfl (by decide +kernel) fo_215 ?_
        refine fs_aload_n (k := 0) (p := 63) (by decide +kernel) rfl rfl ?_
        refine fs_iload_n (k := 1) (p := 64) (by decide +kernel) rfl rfl ?_
        refine fs_iload (k := 4) (p := 66) (by decide +kernel) rfl rfl ?_
        obtain ⟨q9, w8, h⟩ := fx_bd h
        refine fs_callV (idx := 264) (mj := 155) (ci := 10) (na := 2) (mx := 3) (p := 69) (args := [.ref 215, .int x1, .int x4]) (rest := [.long (q6.2.2 215 40), .ref 215]) (al2 := [some (.ref 215), some (.int x1), some (.int x4)]) (by decide +kernel) rfl (by decide +kernel) fo_215 rfl rfl rfl rfl rfl rfl rfl (by omega) (fun d' hd' => fe_155 (by omega) w8) rfl ?_
        refine fs_i2l (p := 70) (by decide +kernel) rfl ?_
        refine fs_lload_n (k := 2) (p := 71) (by decide +kernel) rfl rfl ?_
        refine fs_lmul (p := 72) (by decide +kernel) rfl ?_
        refine fs_aload_n (k := 0) (p := 73) (by decide +kernel) rfl rfl ?_
        refine fs_gfi (idx := 382) (ci := 10) (j := 42) (p := 76) (by decide +kernel) rfl (by decide +kernel) fo_215 ?_
        refine fs_i2l (p := 77) (by decide +kernel) rfl ?_
        refine fs_aload_n (k := 0) (p := 78) (by decide +kernel) rfl rfl ?_
        refine fs_iload (k := 4) (p := 80) (by decide +kernel) rfl rfl ?_
        obtain ⟨q13, w12, h⟩ := fx_bd h
        refine fs_callV (idx := 385) (mj := 206) (ci := 10) (na := 1) (mx := 4) (p := 83) (args := [.ref 215, .int x4]) (rest := [.long ((q9.2.1 215 42)).toInt64, .long ((q9.1).toInt64 * x2), .long (q6.2.2 215 40), .ref 215]) (al2 := [some (.ref 215), some (.int x4), none, none]) (by decide +kernel) rfl (by decide +kernel) fo_215 rfl rfl rfl rfl rfl rfl rfl (by omega) (fun d' hd' => fe_206 (by omega) w12) rfl ?_
        refine fs_i2l (p := 84) (by decide +kernel) rfl ?_
        refine fs_lmul (p := 85) (by decide +kernel) rfl ?_
        refine fs_lsub (p := 86) (by decide +kernel) rfl ?_
        refine fs_abl (idx := 397) (p := 89) (by decide +kernel) rfl (by decide +kernel) rfl ?_
        refine fs_ladd (p := 90) (by decide +kernel) rfl ?_
        refine fs_pfl (idx := 388) (ci := 10) (j := 40) (p := 93) (by decide +kernel) rfl (by decide +kernel) (by decide +kernel) fo_215 ?_
        exact fe_209_93 hd ih _ _ _ _ _ h
def fm_209_5 : Nat → Int32 → Int64 → Int32 → fx_S → Option (Bool × fx_S)
  | 0, _, _, _, _ => none
  | n + 1, x1, x2, x4, σ =>
    if (8 : Int32) ≤ x4 then (
      fm_209_41 100000 x1 x2 (0 : Int32) (fx_w2 (fx_w2 σ 215 40 (0 : Int64)) 215 41 x2)) else (
      (fm_206 x4 σ).bind fun q4 =>
      fm_209_5 n x1 (x2 + (q4.1).toInt64) (x4 + (1 : Int32)) q4.2)
theorem fe_209_5 {d : Nat} (hd : 1 ≤ d) : ∀ (n : Nat) (x1 : Int32) (x2 : Int64) (x4 : Int32) (σ : fx_S) (q : Bool × fx_S), fm_209_5 n x1 x2 x4 σ = some q → fx_E none 209 d 5 [some (.ref 215), some (.int x1), some (.long x2), none, some (.int x4)] [] σ (some (.int (fx_b q.1))) q.2 := by
  intro n
  induction n with
  | zero =>
    intro x1 x2 x4 σ q  h
    rw [fm_209_5] at h
    exact fx_no h
  | succ n ih =>
    intro x1 x2 x4 σ q  h
    rw [fm_209_5] at h
    refine fs_iload (k := 4) (p := 7) (by decide +kernel) rfl rfl ?_
    refine fs_bipush (n := 8) (p := 9) (by decide +kernel) rfl kb_8 ?_
    by_cases c2 : (8 : Int32) ≤ x4
    · rw [if_pos c2] at h
      refine fs_icmp_ge_t (off := 19) (t := 28) (by decide +kernel) (by decide +kernel) c2 ?_
      refine fs_aload_n (k := 0) (p := 29) (by decide +kernel) rfl rfl ?_
      refine fs_lconst (n := 0) (p := 30) (by decide +kernel) rfl kl_0 ?_
      refine fs_pfl (idx := 388) (ci := 10) (j := 40) (p := 33) (by decide +kernel) rfl (by decide +kernel) (by decide +kernel) fo_215 ?_
      refine fs_aload_n (k := 0) (p := 34) (by decide +kernel) rfl rfl ?_
      refine fs_lload_n (k := 2) (p := 35) (by decide +kernel) rfl rfl ?_
      refine fs_pfl (idx := 391) (ci := 10) (j := 41) (p := 38) (by decide +kernel) rfl (by decide +kernel) (by decide +kernel) fo_215 ?_
      refine fs_iconst (n := 0) (p := 39) (by decide +kernel) rfl kc_0 ?_
      refine fs_istore (k := 4) (p := 41) (M := 5) (al' := [some (.ref 215), some (.int x1), some (.long x2), none, some (.int (0 : Int32))]) (by decide +kernel) rfl mx_209 rfl rfl ?_
      exact fe_209_41 hd 100000 _ _ _ _ _ h
    · rw [if_neg c2] at h
      refine fs_icmp_ge_f (off := 19) (t := 28) (p := 12) (by decide +kernel) (by decide +kernel) rfl c2 ?_
      refine fs_lload_n (k := 2) (p := 13) (by decide +kernel) rfl rfl ?_
      refine fs_aload_n (k := 0) (p := 14) (by decide +kernel) rfl rfl ?_
      refine fs_iload (k := 4) (p := 16) (by decide +kernel) rfl rfl ?_
      obtain ⟨q4, w3, h⟩ := fx_bd h
      refine fs_callV (idx := 385) (mj := 206) (ci := 10) (na := 1) (mx := 4) (p := 19) (args := [.ref 215, .int x4]) (rest := [.long x2]) (al2 := [some (.ref 215), some (.int x4), none, none]) (by decide +kernel) rfl (by decide +kernel) fo_215 rfl rfl rfl rfl rfl rfl rfl (by omega) (fun d' hd' => fe_206 (by omega) w3) rfl ?_
      refine fs_i2l (p := 20) (by decide +kernel) rfl ?_
      refine fs_ladd (p := 21) (by decide +kernel) rfl ?_
      refine fs_lstore_n (k := 2) (p := 22) (M := 5) (al' := [some (.ref 215), some (.int x1), some (.long (x2 + (q4.1).toInt64)), none, some (.int x4)]) (by decide +kernel) rfl mx_209 rfl rfl ?_
      refine fs_iinc (k := 4) (n := 1) (p := 25) (M := 5) (al' := [some (.ref 215), some (.int x1), some (.long (x2 + (q4.1).toInt64)), none, some (.int (x4 + (1 : Int32)))]) (by decide +kernel) rfl kc_1 mx_209 rfl rfl rfl ?_
      refine fs_goto (off := -20) (p := 5) (by decide +kernel) (by decide +kernel) ?_
      exact ih _ _ _ _ _ h
def fm_209 (x1 : Int32) (σ : fx_S) : Option (Bool × fx_S) :=
  fm_209_5 100000 x1 (0 : Int64) (0 : Int32) σ
theorem fe_209 {d : Nat} (hd : 1 ≤ d) {x1 : Int32} {σ : fx_S} {q : Bool × fx_S} (h : fm_209 x1 σ = some q) : fx_E none 209 d 0 [some (.ref 215), some (.int x1), none, none, none] [] σ (some (.int (fx_b q.1))) q.2 := by
  unfold fm_209 at h
  refine fs_lconst (n := 0) (p := 1) (by decide +kernel) rfl kl_0 ?_
  refine fs_lstore_n (k := 2) (p := 2) (M := 5) (al' := [some (.ref 215), some (.int x1), some (.long (0 : Int64)), none, none]) (by decide +kernel) rfl mx_209 rfl rfl ?_
  refine fs_iconst (n := 0) (p := 3) (by decide +kernel) rfl kc_0 ?_
  refine fs_istore (k := 4) (p := 5) (M := 5) (al' := [some (.ref 215), some (.int x1), some (.long (0 : Int64)), none, some (.int (0 : Int32))]) (by decide +kernel) rfl mx_209 rfl rfl ?_
  exact fe_209_5 hd 100000 _ _ _ _ _ h

/-! ZoneSharesModel.misfit(II)J -/
theorem mx_210 : iv_mx 210 = 3 := by decide +kernel
theorem rt_210 : iv_rt 210 = some .long := by decide +kernel
def fm_210_24 (σ : fx_S) : Option (Int64 × fx_S) :=
  some ((-1 : Int64), σ)
theorem fe_210_24 {d : Nat} (hd : 3 ≤ d) (o0 : Option Value) (o1 : Option Value) (o2 : Option Value) (σ : fx_S) (q : Int64 × fx_S) (h : fm_210_24  σ = some q) : fx_E none 210 d 24 [o0, o1, o2] [] σ (some (.long q.1)) q.2 := by
  unfold fm_210_24 at h
  refine fs_ldc2 (idx := 306) (p := 27) (x := -1) (by decide +kernel) rfl (by decide +kernel) ?_
  have h := Option.some.inj h
  subst h
  exact fs_lret (by decide +kernel) rt_210
def fm_210_48 (σ : fx_S) : Option (Int64 × fx_S) :=
  some ((-1 : Int64), σ)
theorem fe_210_48 {d : Nat} (hd : 3 ≤ d) (o0 : Option Value) (o1 : Option Value) (o2 : Option Value) (σ : fx_S) (q : Int64 × fx_S) (h : fm_210_48  σ = some q) : fx_E none 210 d 48 [o0, o1, o2] [] σ (some (.long q.1)) q.2 := by
  unfold fm_210_48 at h
  refine fs_ldc2 (idx := 306) (p := 51) (x := -1) (by decide +kernel) rfl (by decide +kernel) ?_
  have h := Option.some.inj h
  subst h
  exact fs_lret (by decide +kernel) rt_210
def fm_210 (x1 : Int32) (x2 : Int32) (σ : fx_S) : Option (Int64 × fx_S) :=
  (fm_150 σ).bind fun q21 =>
  if (fx_b q21.1) = 0 then (
    fm_210_24 q21.2) else (
    (fm_148 x1 q21.2).bind fun q24 =>
    if (fx_b q24.1) = 0 then (
      fm_210_24 q24.2) else (
      (fm_130 (x2).toInt64 (0 : Int64) (1 : Int64) q24.2).bind fun q28 =>
      if ¬ (fx_b q28.1) = 0 then (
        (fm_205 x1 q28.2).bind fun q31 =>
        if (q31.1 215 42) = 0 then (
          fm_210_48 q31) else (
          (fm_209 x1 q31).bind fun q35 =>
          if ¬ (fx_b q35.1) = 0 then (
            (fm_194 (q35.2.2 215 40) (q35.2.2 215 41) x2 q35.2).bind fun q38 =>
            some (q38.1, q38.2)) else (
            fm_210_48 q35.2))) else (
        fm_210_24 q28.2)))
theorem fe_210 {d : Nat} (hd : 3 ≤ d) {x1 : Int32} {x2 : Int32} {σ : fx_S} {q : Int64 × fx_S} (h : fm_210 x1 x2 σ = some q) : fx_E none 210 d 0 [some (.ref 215), some (.int x1), some (.int x2)] [] σ (some (.long q.1)) q.2 := by
  unfold fm_210 at h
  refine fs_aload_n (k := 0) (p := 1) (by decide +kernel) rfl rfl ?_
  obtain ⟨q21, w20, h⟩ := fx_bd h
  refine fs_callV (idx := 303) (mj := 150) (ci := 10) (na := 0) (mx := 1) (p := 4) (args := [.ref 215]) (rest := []) (al2 := [some (.ref 215)]) (by decide +kernel) rfl (by decide +kernel) fo_215 rfl rfl rfl rfl rfl rfl rfl (by omega) (fun d' hd' => fe_150 (by omega) w20) rfl ?_
  by_cases c22 : (fx_b q21.1) = 0
  · rw [if_pos c22] at h
    refine fs_if_eq_t (off := 20) (t := 24) (by decide +kernel) (by decide +kernel) c22 ?_
    exact fe_210_24 hd _ _ _ _ _ h
  · rw [if_neg c22] at h
    refine fs_if_eq_f (off := 20) (t := 24) (p := 7) (by decide +kernel) (by decide +kernel) rfl c22 ?_
    refine fs_iload_n (k := 1) (p := 8) (by decide +kernel) rfl rfl ?_
    obtain ⟨q24, w23, h⟩ := fx_bd h
    refine fs_callS (idx := 190) (mj := 148) (na := 1) (mx := 1) (p := 11) (args := [.int x1]) (rest := []) (al2 := [some (.int x1)]) (by decide +kernel) rfl (by decide +kernel) rfl rfl rfl rfl rfl rfl rfl (by omega) (fun d' hd' => fe_148 (by omega) w23) rfl ?_
    by_cases c25 : (fx_b q24.1) = 0
    · rw [if_pos c25] at h
      refine fs_if_eq_t (off := 13) (t := 24) (by decide +kernel) (by decide +kernel) c25 ?_
      exact fe_210_24 hd _ _ _ _ _ h
    · rw [if_neg c25] at h
      refine fs_if_eq_f (off := 13) (t := 24) (p := 14) (by decide +kernel) (by decide +kernel) rfl c25 ?_
      refine fs_iload_n (k := 2) (p := 15) (by decide +kernel) rfl rfl ?_
      refine fs_i2l (p := 16) (by decide +kernel) rfl ?_
      refine fs_lconst (n := 0) (p := 17) (by decide +kernel) rfl kl_0 ?_
      refine fs_lconst (n := 1) (p := 18) (by decide +kernel) rfl kl_1 ?_
      obtain ⟨q28, w27, h⟩ := fx_bd h
      refine fs_callS (idx := 128) (mj := 130) (na := 3) (mx := 6) (p := 21) (args := [.long (x2).toInt64, .long (0 : Int64), .long (1 : Int64)]) (rest := []) (al2 := [some (.long (x2).toInt64), none, some (.long (0 : Int64)), none, some (.long (1 : Int64)), none]) (by decide +kernel) rfl (by decide +kernel) rfl rfl rfl rfl rfl rfl rfl (by omega) (fun d' hd' => fe_130 (by omega) w27) rfl ?_
      by_cases c29 : ¬ (fx_b q28.1) = 0
      · rw [if_pos c29] at h
        refine fs_if_ne_t (off := 7) (t := 28) (by decide +kernel) (by decide +kernel) c29 ?_
        refine fs_aload_n (k := 0) (p := 29) (by decide +kernel) rfl rfl ?_
        refine fs_iload_n (k := 1) (p := 30) (by decide +kernel) rfl rfl ?_
        obtain ⟨q31, w30, h⟩ := fx_bd h
        refine fs_callV (idx := 400) (mj := 205) (ci := 10) (na := 1) (mx := 3) (p := 33) (args := [.ref 215, .int x1]) (rest := []) (al2 := [some (.ref 215), some (.int x1), none]) (by decide +kernel) rfl (by decide +kernel) fo_215 rfl rfl rfl rfl rfl rfl rfl (by omega) (fun d' hd' => fe_205 (by omega) w30) rfl ?_
        refine fs_aload_n (k := 0) (p := 34) (by decide +kernel) rfl rfl ?_
        refine fs_gfi (idx := 382) (ci := 10) (j := 42) (p := 37) (by decide +kernel) rfl (by decide +kernel) fo_215 ?_
        by_cases c33 : (q31.1 215 42) = 0
        · rw [if_pos c33] at h
          refine fs_if_eq_t (off := 11) (t := 48) (by decide +kernel) (by decide +kernel) c33 ?_
          exact fe_210_48 hd _ _ _ _ _ h
        · rw [if_neg c33] at h
          refine fs_if_eq_f (off := 11) (t := 48) (p := 40) (by decide +kernel) (by decide +kernel) rfl c33 ?_
          refine fs_aload_n (k := 0) (p := 41) (by decide +kernel) rfl rfl ?_
          refine fs_iload_n (k := 1) (p := 42) (by decide +kernel) rfl rfl ?_
          obtain ⟨q35, w34, h⟩ := fx_bd h
          refine fs_callV (idx := 403) (mj := 209) (ci := 10) (na := 1) (mx := 5) (p := 45) (args := [.ref 215, .int x1]) (rest := []) (al2 := [some (.ref 215), some (.int x1), none, none, none]) (by decide +kernel) rfl (by decide +kernel) fo_215 rfl rfl rfl rfl rfl rfl rfl (by omega) (fun d' hd' => fe_209 (by omega) w34) rfl ?_
          by_cases c36 : ¬ (fx_b q35.1) = 0
          · rw [if_pos c36] at h
            refine fs_if_ne_t (off := 7) (t := 52) (by decide +kernel) (by decide +kernel) c36 ?_
            refine fs_aload_n (k := 0) (p := 53) (by decide +kernel) rfl rfl ?_
            refine fs_gfl (idx := 388) (ci := 10) (j := 40) (p := 56) (by decide +kernel) rfl (by decide +kernel) fo_215 ?_
            refine fs_aload_n (k := 0) (p := 57) (by decide +kernel) rfl rfl ?_
            refine fs_gfl (idx := 391) (ci := 10) (j := 41) (p := 60) (by decide +kernel) rfl (by decide +kernel) fo_215 ?_
            refine fs_iload_n (k := 2) (p := 61) (by decide +kernel) rfl rfl ?_
            obtain ⟨q38, w37, h⟩ := fx_bd h
            refine fs_callS (idx := 342) (mj := 194) (na := 3) (mx := 7) (p := 64) (args := [.long (q35.2.2 215 40), .long (q35.2.2 215 41), .int x2]) (rest := []) (al2 := [some (.long (q35.2.2 215 40)), none, some (.long (q35.2.2 215 41)), none, some (.int x2), none, none]) (by decide +kernel) rfl (by decide +kernel) rfl rfl rfl rfl rfl rfl rfl (by omega) (fun d' hd' => fe_194 (by omega) w37) rfl ?_
            have h := Option.some.inj h
            subst h
            exact fs_lret (by decide +kernel) rt_210
          · rw [if_neg c36] at h
            refine fs_if_ne_f (off := 7) (t := 52) (p := 48) (by decide +kernel) (by decide +kernel) rfl c36 ?_
            exact fe_210_48 hd _ _ _ _ _ h
      · rw [if_neg c29] at h
        refine fs_if_ne_f (off := 7) (t := 28) (p := 24) (by decide +kernel) (by decide +kernel) rfl c29 ?_
        exact fe_210_24 hd _ _ _ _ _ h

/-! ZoneSharesModel.isWeight(III)Z -/
theorem mx_213 : iv_mx 213 = 5 := by decide +kernel
theorem rt_213 : iv_rt 213 = some .boolean := by decide +kernel
def fm_213_40 (k_3 : Int32 → Int32 → Int32 → Int32 → fx_S → Option (Bool × fx_S)) (x1 : Int32) (x2 : Int32) (x3 : Int32) (x4 : Int32) (σ : fx_S) : Option (Bool × fx_S) :=
  k_3 x1 x2 x3 (x4 + (1 : Int32)) σ
theorem fe_213_40 {d : Nat} (hd : 0 ≤ d) {k_3 : Int32 → Int32 → Int32 → Int32 → fx_S → Option (Bool × fx_S)} (hk_3 : ∀ (x1 : Int32) (x2 : Int32) (x3 : Int32) (x4 : Int32) (σ : fx_S) (q : Bool × fx_S), k_3 x1 x2 x3 x4 σ = some q → fx_E none 213 d 3 [some (.ref 215), some (.int x1), some (.int x2), some (.int x3), some (.int x4)] [] σ (some (.int (fx_b q.1))) q.2) (x1 : Int32) (x2 : Int32) (x3 : Int32) (x4 : Int32) (σ : fx_S) (q : Bool × fx_S) (h : fm_213_40 k_3  x1 x2 x3 x4 σ = some q) : fx_E none 213 d 40 [some (.ref 215), some (.int x1), some (.int x2), some (.int x3), some (.int x4)] [] σ (some (.int (fx_b q.1))) q.2 := by
  unfold fm_213_40 at h
  refine fs_iinc (k := 4) (n := 1) (p := 43) (M := 5) (al' := [some (.ref 215), some (.int x1), some (.int x2), some (.int x3), some (.int (x4 + (1 : Int32)))]) (by decide +kernel) rfl kc_1 mx_213 rfl rfl rfl ?_
  refine fs_goto (off := -40) (p := 3) (by decide +kernel) (by decide +kernel) ?_
  exact hk_3 _ _ _ _ _ _ h
def fm_213_20 (k_3 : Int32 → Int32 → Int32 → Int32 → fx_S → Option (Bool × fx_S)) (x1 : Int32) (x2 : Int32) (x3 : Int32) (x4 : Int32) (σ : fx_S) : Option (Bool × fx_S) :=
  (fx_ld σ 216 (((32 : Int32) + ((4 : Int32) * x4)) + x2)).bind fun v1 =>
  if v1 = x3 then (
    fm_213_40 k_3 x1 x2 x3 x4 σ) else (
    some (false, σ))
theorem fe_213_20 {d : Nat} (hd : 0 ≤ d) {k_3 : Int32 → Int32 → Int32 → Int32 → fx_S → Option (Bool × fx_S)} (hk_3 : ∀ (x1 : Int32) (x2 : Int32) (x3 : Int32) (x4 : Int32) (σ : fx_S) (q : Bool × fx_S), k_3 x1 x2 x3 x4 σ = some q → fx_E none 213 d 3 [some (.ref 215), some (.int x1), some (.int x2), some (.int x3), some (.int x4)] [] σ (some (.int (fx_b q.1))) q.2) (x1 : Int32) (x2 : Int32) (x3 : Int32) (x4 : Int32) (σ : fx_S) (q : Bool × fx_S) (h : fm_213_20 k_3  x1 x2 x3 x4 σ = some q) : fx_E none 213 d 20 [some (.ref 215), some (.int x1), some (.int x2), some (.int x3), some (.int x4)] [] σ (some (.int (fx_b q.1))) q.2 := by
  unfold fm_213_20 at h
  refine fs_aload_n (k := 0) (p := 21) (by decide +kernel) rfl rfl ?_
  refine fs_gfr (idx := 9) (ci := 10) (j := 0) (p := 24) (by decide +kernel) rfl (by decide +kernel) fo_215 (fr_a215_0) ?_
  refine fs_bipush (n := 32) (p := 26) (by decide +kernel) rfl kb_32 ?_
  refine fs_iconst (n := 4) (p := 27) (by decide +kernel) rfl kc_4 ?_
  refine fs_iload (k := 4) (p := 29) (by decide +kernel) rfl rfl ?_
  refine fs_imul (p := 30) (by decide +kernel) rfl ?_
  refine fs_iadd (p := 31) (by decide +kernel) rfl ?_
  refine fs_iload_n (k := 2) (p := 32) (by decide +kernel) rfl rfl ?_
  refine fs_iadd (p := 33) (by decide +kernel) rfl ?_
  obtain ⟨v1, w2, h⟩ := fx_bd h
  refine fs_iaload (p := 34) (by decide +kernel) rfl w2 ?_
  refine fs_iload_n (k := 3) (p := 35) (by decide +kernel) rfl rfl ?_
  by_cases c6 : v1 = x3
  · rw [if_pos c6] at h
    refine fs_icmp_eq_t (off := 5) (t := 40) (by decide +kernel) (by decide +kernel) c6 ?_
    exact fe_213_40 hd hk_3 _ _ _ _ _ _ h
  · rw [if_neg c6] at h
    refine fs_icmp_eq_f (off := 5) (t := 40) (p := 38) (by decide +kernel) (by decide +kernel) rfl c6 ?_
    refine fs_iconst (n := 0) (p := 39) (by decide +kernel) rfl kc_0 ?_
    have h := Option.some.inj h
    subst h
    exact fs_zret (b := false) (by decide +kernel) rt_213
def fm_213_3 : Nat → Int32 → Int32 → Int32 → Int32 → fx_S → Option (Bool × fx_S)
  | 0, _, _, _, _, _ => none
  | n + 1, x1, x2, x3, x4, σ =>
    if (3 : Int32) ≤ x4 then (
      some (true, σ)) else (
      if x1 = (-1 : Int32) then (
        fm_213_20 (fm_213_3 n) x1 x2 x3 x4 σ) else (
        if ¬ x1 = x4 then (
          fm_213_40 (fm_213_3 n) x1 x2 x3 x4 σ) else (
          fm_213_20 (fm_213_3 n) x1 x2 x3 x4 σ)))
theorem fe_213_3 {d : Nat} (hd : 0 ≤ d) : ∀ (n : Nat) (x1 : Int32) (x2 : Int32) (x3 : Int32) (x4 : Int32) (σ : fx_S) (q : Bool × fx_S), fm_213_3 n x1 x2 x3 x4 σ = some q → fx_E none 213 d 3 [some (.ref 215), some (.int x1), some (.int x2), some (.int x3), some (.int x4)] [] σ (some (.int (fx_b q.1))) q.2 := by
  intro n
  induction n with
  | zero =>
    intro x1 x2 x3 x4 σ q  h
    rw [fm_213_3] at h
    exact fx_no h
  | succ n ih =>
    intro x1 x2 x3 x4 σ q  h
    rw [fm_213_3] at h
    refine fs_iload (k := 4) (p := 5) (by decide +kernel) rfl rfl ?_
    refine fs_iconst (n := 3) (p := 6) (by decide +kernel) rfl kc_3 ?_
    by_cases c2 : (3 : Int32) ≤ x4
    · rw [if_pos c2] at h
      refine fs_icmp_ge_t (off := 40) (t := 46) (by decide +kernel) (by decide +kernel) c2 ?_
      refine fs_iconst (n := 1) (p := 47) (by decide +kernel) rfl kc_1 ?_
      have h := Option.some.inj h
      subst h
      exact fs_zret (b := true) (by decide +kernel) rt_213
    · rw [if_neg c2] at h
      refine fs_icmp_ge_f (off := 40) (t := 46) (p := 9) (by decide +kernel) (by decide +kernel) rfl c2 ?_
      refine fs_iload_n (k := 1) (p := 10) (by decide +kernel) rfl rfl ?_
      refine fs_iconst (n := -1) (p := 11) (by decide +kernel) rfl kc_m1 ?_
      by_cases c4 : x1 = (-1 : Int32)
      · rw [if_pos c4] at h
        refine fs_icmp_eq_t (off := 9) (t := 20) (by decide +kernel) (by decide +kernel) c4 ?_
        exact fe_213_20 hd ih _ _ _ _ _ _ h
      · rw [if_neg c4] at h
        refine fs_icmp_eq_f (off := 9) (t := 20) (p := 14) (by decide +kernel) (by decide +kernel) rfl c4 ?_
        refine fs_iload_n (k := 1) (p := 15) (by decide +kernel) rfl rfl ?_
        refine fs_iload (k := 4) (p := 17) (by decide +kernel) rfl rfl ?_
        by_cases c5 : ¬ x1 = x4
        · rw [if_pos c5] at h
          refine fs_icmp_ne_t (off := 23) (t := 40) (by decide +kernel) (by decide +kernel) c5 ?_
          exact fe_213_40 hd ih _ _ _ _ _ _ h
        · rw [if_neg c5] at h
          refine fs_icmp_ne_f (off := 23) (t := 40) (p := 20) (by decide +kernel) (by decide +kernel) rfl c5 ?_
          exact fe_213_20 hd ih _ _ _ _ _ _ h
def fm_213 (x1 : Int32) (x2 : Int32) (x3 : Int32) (σ : fx_S) : Option (Bool × fx_S) :=
  fm_213_3 100000 x1 x2 x3 (0 : Int32) σ
theorem fe_213 {d : Nat} (hd : 0 ≤ d) {x1 : Int32} {x2 : Int32} {x3 : Int32} {σ : fx_S} {q : Bool × fx_S} (h : fm_213 x1 x2 x3 σ = some q) : fx_E none 213 d 0 [some (.ref 215), some (.int x1), some (.int x2), some (.int x3), none] [] σ (some (.int (fx_b q.1))) q.2 := by
  unfold fm_213 at h
  refine fs_iconst (n := 0) (p := 1) (by decide +kernel) rfl kc_0 ?_
  refine fs_istore (k := 4) (p := 3) (M := 5) (al' := [some (.ref 215), some (.int x1), some (.int x2), some (.int x3), some (.int (0 : Int32))]) (by decide +kernel) rfl mx_213 rfl rfl ?_
  exact fe_213_3 hd 100000 _ _ _ _ _ _ h

/-! ZoneSharesModel.weigh(III)I -/
theorem mx_214 : iv_mx 214 = 6 := by decide +kernel
theorem rt_214 : iv_rt 214 = some .int := by decide +kernel
def fm_214_111 (k_79 : Int32 → Int32 → Int32 → Int32 → Int32 → fx_S → Option (Int32 × fx_S)) (x1 : Int32) (x2 : Int32) (x3 : Int32) (x4 : Int32) (x5 : Int32) (σ : fx_S) : Option (Int32 × fx_S) :=
  k_79 x1 x2 x3 x4 (x5 + (1 : Int32)) σ
theorem fe_214_111 {d : Nat} (hd : 1 ≤ d) {k_79 : Int32 → Int32 → Int32 → Int32 → Int32 → fx_S → Option (Int32 × fx_S)} (hk_79 : ∀ (x1 : Int32) (x2 : Int32) (x3 : Int32) (x4 : Int32) (x5 : Int32) (σ : fx_S) (q : Int32 × fx_S), k_79 x1 x2 x3 x4 x5 σ = some q → fx_E none 214 d 79 [some (.ref 215), some (.int x1), some (.int x2), some (.int x3), some (.int x4), some (.int x5)] [] σ (some (.int q.1)) q.2) (x1 : Int32) (x2 : Int32) (x3 : Int32) (x4 : Int32) (x5 : Int32) (σ : fx_S) (q : Int32 × fx_S) (h : fm_214_111 k_79  x1 x2 x3 x4 x5 σ = some q) : fx_E none 214 d 111 [some (.ref 215), some (.int x1), some (.int x2), some (.int x3), some (.int x4), some (.int x5)] [] σ (some (.int q.1)) q.2 := by
  unfold fm_214_111 at h
  refine fs_iinc (k := 5) (n := 1) (p := 114) (M := 6) (al' := [some (.ref 215), some (.int x1), some (.int x2), some (.int x3), some (.int x4), some (.int (x5 + (1 : Int32)))]) (by decide +kernel) rfl kc_1 mx_214 rfl rfl rfl ?_
  refine fs_goto (off := -35) (p := 79) (by decide +kernel) (by decide +kernel) ?_
  exact hk_79 _ _ _ _ _ _ _ h
def fm_214_96 (k_79 : Int32 → Int32 → Int32 → Int32 → Int32 → fx_S → Option (Int32 × fx_S)) (x1 : Int32) (x2 : Int32) (x3 : Int32) (x4 : Int32) (x5 : Int32) (σ : fx_S) : Option (Int32 × fx_S) :=
  (fx_st σ 216 (((32 : Int32) + ((4 : Int32) * x5)) + x2) x3).bind fun t1 =>
  fm_214_111 k_79 x1 x2 x3 x4 x5 t1
theorem fe_214_96 {d : Nat} (hd : 1 ≤ d) {k_79 : Int32 → Int32 → Int32 → Int32 → Int32 → fx_S → Option (Int32 × fx_S)} (hk_79 : ∀ (x1 : Int32) (x2 : Int32) (x3 : Int32) (x4 : Int32) (x5 : Int32) (σ : fx_S) (q : Int32 × fx_S), k_79 x1 x2 x3 x4 x5 σ = some q → fx_E none 214 d 79 [some (.ref 215), some (.int x1), some (.int x2), some (.int x3), some (.int x4), some (.int x5)] [] σ (some (.int q.1)) q.2) (x1 : Int32) (x2 : Int32) (x3 : Int32) (x4 : Int32) (x5 : Int32) (σ : fx_S) (q : Int32 × fx_S) (h : fm_214_96 k_79  x1 x2 x3 x4 x5 σ = some q) : fx_E none 214 d 96 [some (.ref 215), some (.int x1), some (.int x2), some (.int x3), some (.int x4), some (.int x5)] [] σ (some (.int q.1)) q.2 := by
  unfold fm_214_96 at h
  refine fs_aload_n (k := 0) (p := 97) (by decide +kernel) rfl rfl ?_
  refine fs_gfr (idx := 9) (ci := 10) (j := 0) (p := 100) (by decide +kernel) rfl (by decide +kernel) fo_215 (fr_a215_0) ?_
  refine fs_bipush (n := 32) (p := 102) (by decide +kernel) rfl kb_32 ?_
  refine fs_iconst (n := 4) (p := 103) (by decide +kernel) rfl kc_4 ?_
  refine fs_iload (k := 5) (p := 105) (by decide +kernel) rfl rfl ?_
  refine fs_imul (p := 106) (by decide +kernel) rfl ?_
  refine fs_iadd (p := 107) (by decide +kernel) rfl ?_
  refine fs_iload_n (k := 2) (p := 108) (by decide +kernel) rfl rfl ?_
  refine fs_iadd (p := 109) (by decide +kernel) rfl ?_
  refine fs_iload_n (k := 3) (p := 110) (by decide +kernel) rfl rfl ?_
  obtain ⟨t1, w2, h⟩ := fx_bd h
  refine fs_iastore (p := 111) (by decide +kernel) rfl w2 ?_
  exact fe_214_111 hd hk_79 _ _ _ _ _ _ _ h
def fm_214_79 : Nat → Int32 → Int32 → Int32 → Int32 → Int32 → fx_S → Option (Int32 × fx_S)
  | 0, _, _, _, _, _, _ => none
  | n + 1, x1, x2, x3, x4, x5, σ =>
    if (3 : Int32) ≤ x5 then (
      some (x4, σ)) else (
      if x1 = (-1 : Int32) then (
        fm_214_96 (fm_214_79 n) x1 x2 x3 x4 x5 σ) else (
        if ¬ x1 = x5 then (
          fm_214_111 (fm_214_79 n) x1 x2 x3 x4 x5 σ) else (
          fm_214_96 (fm_214_79 n) x1 x2 x3 x4 x5 σ)))
theorem fe_214_79 {d : Nat} (hd : 1 ≤ d) : ∀ (n : Nat) (x1 : Int32) (x2 : Int32) (x3 : Int32) (x4 : Int32) (x5 : Int32) (σ : fx_S) (q : Int32 × fx_S), fm_214_79 n x1 x2 x3 x4 x5 σ = some q → fx_E none 214 d 79 [some (.ref 215), some (.int x1), some (.int x2), some (.int x3), some (.int x4), some (.int x5)] [] σ (some (.int q.1)) q.2 := by
  intro n
  induction n with
  | zero =>
    intro x1 x2 x3 x4 x5 σ q  h
    rw [fm_214_79] at h
    exact fx_no h
  | succ n ih =>
    intro x1 x2 x3 x4 x5 σ q  h
    rw [fm_214_79] at h
    refine fs_iload (k := 5) (p := 81) (by decide +kernel) rfl rfl ?_
    refine fs_iconst (n := 3) (p := 82) (by decide +kernel) rfl kc_3 ?_
    by_cases c2 : (3 : Int32) ≤ x5
    · rw [if_pos c2] at h
      refine fs_icmp_ge_t (off := 35) (t := 117) (by decide +kernel) (by decide +kernel) c2 ?_
      refine fs_iload (k := 4) (p := 119) (by decide +kernel) rfl rfl ?_
      have h := Option.some.inj h
      subst h
      exact fs_iret (by decide +kernel) rt_214
    · rw [if_neg c2] at h
      refine fs_icmp_ge_f (off := 35) (t := 117) (p := 85) (by decide +kernel) (by decide +kernel) rfl c2 ?_
      refine fs_iload_n (k := 1) (p := 86) (by decide +kernel) rfl rfl ?_
      refine fs_iconst (n := -1) (p := 87) (by decide +kernel) rfl kc_m1 ?_
      by_cases c4 : x1 = (-1 : Int32)
      · rw [if_pos c4] at h
        refine fs_icmp_eq_t (off := 9) (t := 96) (by decide +kernel) (by decide +kernel) c4 ?_
        exact fe_214_96 hd ih _ _ _ _ _ _ _ h
      · rw [if_neg c4] at h
        refine fs_icmp_eq_f (off := 9) (t := 96) (p := 90) (by decide +kernel) (by decide +kernel) rfl c4 ?_
        refine fs_iload_n (k := 1) (p := 91) (by decide +kernel) rfl rfl ?_
        refine fs_iload (k := 5) (p := 93) (by decide +kernel) rfl rfl ?_
        by_cases c5 : ¬ x1 = x5
        · rw [if_pos c5] at h
          refine fs_icmp_ne_t (off := 18) (t := 111) (by decide +kernel) (by decide +kernel) c5 ?_
          exact fe_214_111 hd ih _ _ _ _ _ _ _ h
        · rw [if_neg c5] at h
          refine fs_icmp_ne_f (off := 18) (t := 111) (p := 96) (by decide +kernel) (by decide +kernel) rfl c5 ?_
          exact fe_214_96 hd ih _ _ _ _ _ _ _ h
def fm_214 (x1 : Int32) (x2 : Int32) (x3 : Int32) (σ : fx_S) : Option (Int32 × fx_S) :=
  (fm_130 (x1).toInt64 (-1 : Int64) (2 : Int64) σ).bind fun q31 =>
  if (fx_b q31.1) = 0 then (
    some ((-1 : Int32), q31.2)) else (
    (fm_130 (x2).toInt64 (0 : Int64) (3 : Int64) q31.2).bind fun q35 =>
    if (fx_b q35.1) = 0 then (
      some ((-1 : Int32), q35.2)) else (
      (fm_130 (x3).toInt64 (0 : Int64) (9 : Int64) q35.2).bind fun q39 =>
      if ¬ (fx_b q39.1) = 0 then (
        (fm_213 x1 x2 x3 q39.2).bind fun q42 =>
        if (fx_b q42.1) = 0 then (
          (fm_132 q42.2).bind fun q45 =>
          (fx_ld q45 216 (((32 : Int32) + ((4 : Int32) * (if (0 : Int32) < x1 then x1 else (0 : Int32)))) + x2)).bind fun v46 =>
          fm_214_79 100000 x1 x2 x3 v46 (0 : Int32) q45) else (
          some ((-2 : Int32), q42.2))) else (
        some ((-1 : Int32), q39.2))))
theorem fe_214 {d : Nat} (hd : 1 ≤ d) {x1 : Int32} {x2 : Int32} {x3 : Int32} {σ : fx_S} {q : Int32 × fx_S} (h : fm_214 x1 x2 x3 σ = some q) : fx_E none 214 d 0 [some (.ref 215), some (.int x1), some (.int x2), some (.int x3), none, none] [] σ (some (.int q.1)) q.2 := by
  unfold fm_214 at h
  refine fs_iload_n (k := 1) (p := 1) (by decide +kernel) rfl rfl ?_
  refine fs_i2l (p := 2) (by decide +kernel) rfl ?_
  refine fs_ldc2 (idx := 306) (p := 5) (x := -1) (by decide +kernel) rfl (by decide +kernel) ?_
  refine fs_ldc2 (idx := 161) (p := 8) (x := 2) (by decide +kernel) rfl (by decide +kernel) ?_
  obtain ⟨q31, w30, h⟩ := fx_bd h
  refine fs_callS (idx := 128) (mj := 130) (na := 3) (mx := 6) (p := 11) (args := [.long (x1).toInt64, .long (-1 : Int64), .long (2 : Int64)]) (rest := []) (al2 := [some (.long (x1).toInt64), none, some (.long (-1 : Int64)), none, some (.long (2 : Int64)), none]) (by decide +kernel) rfl (by decide +kernel) rfl rfl rfl rfl rfl rfl rfl (by omega) (fun d' hd' => fe_130 (by omega) w30) rfl ?_
  by_cases c32 : (fx_b q31.1) = 0
  · rw [if_pos c32] at h
    refine fs_if_eq_t (off := 27) (t := 38) (by decide +kernel) (by decide +kernel) c32 ?_
    refine fs_iconst (n := -1) (p := 39) (by decide +kernel) rfl kc_m1 ?_
    have h := Option.some.inj h
    subst h
    exact fs_iret (by decide +kernel) rt_214
  · rw [if_neg c32] at h
    refine fs_if_eq_f (off := 27) (t := 38) (p := 14) (by decide +kernel) (by decide +kernel) rfl c32 ?_
    refine fs_iload_n (k := 2) (p := 15) (by decide +kernel) rfl rfl ?_
    refine fs_i2l (p := 16) (by decide +kernel) rfl ?_
    refine fs_lconst (n := 0) (p := 17) (by decide +kernel) rfl kl_0 ?_
    refine fs_ldc2 (idx := 327) (p := 20) (x := 3) (by decide +kernel) rfl (by decide +kernel) ?_
    obtain ⟨q35, w34, h⟩ := fx_bd h
    refine fs_callS (idx := 128) (mj := 130) (na := 3) (mx := 6) (p := 23) (args := [.long (x2).toInt64, .long (0 : Int64), .long (3 : Int64)]) (rest := []) (al2 := [some (.long (x2).toInt64), none, some (.long (0 : Int64)), none, some (.long (3 : Int64)), none]) (by decide +kernel) rfl (by decide +kernel) rfl rfl rfl rfl rfl rfl rfl (by omega) (fun d' hd' => fe_130 (by omega) w34) rfl ?_
    by_cases c36 : (fx_b q35.1) = 0
    · rw [if_pos c36] at h
      refine fs_if_eq_t (off := 15) (t := 38) (by decide +kernel) (by decide +kernel) c36 ?_
      refine fs_iconst (n := -1) (p := 39) (by decide +kernel) rfl kc_m1 ?_
      have h := Option.some.inj h
      subst h
      exact fs_iret (by decide +kernel) rt_214
    · rw [if_neg c36] at h
      refine fs_if_eq_f (off := 15) (t := 38) (p := 26) (by decide +kernel) (by decide +kernel) rfl c36 ?_
      refine fs_iload_n (k := 3) (p := 27) (by decide +kernel) rfl rfl ?_
      refine fs_i2l (p := 28) (by decide +kernel) rfl ?_
      refine fs_lconst (n := 0) (p := 29) (by decide +kernel) rfl kl_0 ?_
      refine fs_ldc2 (idx := 422) (p := 32) (x := 9) (by decide +kernel) rfl (by decide +kernel) ?_
      obtain ⟨q39, w38, h⟩ := fx_bd h
      refine fs_callS (idx := 128) (mj := 130) (na := 3) (mx := 6) (p := 35) (args := [.long (x3).toInt64, .long (0 : Int64), .long (9 : Int64)]) (rest := []) (al2 := [some (.long (x3).toInt64), none, some (.long (0 : Int64)), none, some (.long (9 : Int64)), none]) (by decide +kernel) rfl (by decide +kernel) rfl rfl rfl rfl rfl rfl rfl (by omega) (fun d' hd' => fe_130 (by omega) w38) rfl ?_
      by_cases c40 : ¬ (fx_b q39.1) = 0
      · rw [if_pos c40] at h
        refine fs_if_ne_t (off := 5) (t := 40) (by decide +kernel) (by decide +kernel) c40 ?_
        refine fs_aload_n (k := 0) (p := 41) (by decide +kernel) rfl rfl ?_
        refine fs_iload_n (k := 1) (p := 42) (by decide +kernel) rfl rfl ?_
        refine fs_iload_n (k := 2) (p := 43) (by decide +kernel) rfl rfl ?_
        refine fs_iload_n (k := 3) (p := 44) (by decide +kernel) rfl rfl ?_
        obtain ⟨q42, w41, h⟩ := fx_bd h
        refine fs_callV (idx := 424) (mj := 213) (ci := 10) (na := 3) (mx := 5) (p := 47) (args := [.ref 215, .int x1, .int x2, .int x3]) (rest := []) (al2 := [some (.ref 215), some (.int x1), some (.int x2), some (.int x3), none]) (by decide +kernel) rfl (by decide +kernel) fo_215 rfl rfl rfl rfl rfl rfl rfl (by omega) (fun d' hd' => fe_213 (by omega) w41) rfl ?_
        by_cases c43 : (fx_b q42.1) = 0
        · rw [if_pos c43] at h
          refine fs_if_eq_t (off := 6) (t := 53) (by decide +kernel) (by decide +kernel) c43 ?_
          refine fs_aload_n (k := 0) (p := 54) (by decide +kernel) rfl rfl ?_
          obtain ⟨q45, w44, h⟩ := fx_bd h
          refine fs_callV (idx := 170) (mj := 132) (ci := 10) (na := 0) (mx := 2) (p := 57) (args := [.ref 215]) (rest := []) (al2 := [some (.ref 215), none]) (by decide +kernel) rfl (by decide +kernel) fo_215 rfl rfl rfl rfl rfl rfl rfl (by omega) (fun d' hd' => fe_132 (by omega) w44) rfl ?_
          refine fs_aload_n (k := 0) (p := 58) (by decide +kernel) rfl rfl ?_
          refine fs_gfr (idx := 9) (ci := 10) (j := 0) (p := 61) (by decide +kernel) rfl (by decide +kernel) fo_215 (fr_a215_0) ?_
          refine fs_bipush (n := 32) (p := 63) (by decide +kernel) rfl kb_32 ?_
          refine fs_iconst (n := 4) (p := 64) (by decide +kernel) rfl kc_4 ?_
          refine fs_iconst (n := 0) (p := 65) (by decide +kernel) rfl kc_0 ?_
          refine fs_iload_n (k := 1) (p := 66) (by decide +kernel) rfl rfl ?_
          refine fs_max (idx := 428) (p := 69) (by decide +kernel) rfl (by decide +kernel) rfl ?_
          refine fs_imul (p := 70) (by decide +kernel) rfl ?_
          refine fs_iadd (p := 71) (by decide +kernel) rfl ?_
          refine fs_iload_n (k := 2) (p := 72) (by decide +kernel) rfl rfl ?_
          refine fs_iadd (p := 73) (by decide +kernel) rfl ?_
          obtain ⟨v46, w47, h⟩ := fx_bd h
          refine fs_iaload (p := 74) (by decide +kernel) rfl w47 ?_
          refine fs_istore (k := 4) (p := 76) (M := 6) (al' := [some (.ref 215), some (.int x1), some (.int x2), some (.int x3), some (.int v46), none]) (by decide +kernel) rfl mx_214 rfl rfl ?_
          refine fs_iconst (n := 0) (p := 77) (by decide +kernel) rfl kc_0 ?_
          refine fs_istore (k := 5) (p := 79) (M := 6) (al' := [some (.ref 215), some (.int x1), some (.int x2), some (.int x3), some (.int v46), some (.int (0 : Int32))]) (by decide +kernel) rfl mx_214 rfl rfl ?_
          exact fe_214_79 hd 100000 _ _ _ _ _ _ _ h
        · rw [if_neg c43] at h
          refine fs_if_eq_f (off := 6) (t := 53) (p := 50) (by decide +kernel) (by decide +kernel) rfl c43 ?_
          refine fs_bipush (n := -2) (p := 52) (by decide +kernel) rfl kb_m2 ?_
          have h := Option.some.inj h
          subst h
          exact fs_iret (by decide +kernel) rt_214
      · rw [if_neg c40] at h
        refine fs_if_ne_f (off := 5) (t := 40) (p := 38) (by decide +kernel) (by decide +kernel) rfl c40 ?_
        refine fs_iconst (n := -1) (p := 39) (by decide +kernel) rfl kc_m1 ?_
        have h := Option.some.inj h
        subst h
        exact fs_iret (by decide +kernel) rt_214

/-! ZoneSharesModel.settle(II)I -/
theorem mx_215 : iv_mx 215 = 4 := by decide +kernel
theorem rt_215 : iv_rt 215 = some .int := by decide +kernel
def fm_215 (x1 : Int32) (x2 : Int32) (σ : fx_S) : Option (Int32 × fx_S) :=
  (fm_130 (x1).toInt64 (0 : Int64) (1 : Int64) σ).bind fun q20 =>
  if (fx_b q20.1) = 0 then (
    some ((-1 : Int32), q20.2)) else (
    (fm_130 (x2).toInt64 (0 : Int64) (1 : Int64) q20.2).bind fun q24 =>
    if ¬ (fx_b q24.1) = 0 then (
      (fx_ld q24.2 216 ((3 : Int32) + x1)).bind fun v26 =>
      if ¬ v26 = x2 then (
        (fm_132 q24.2).bind fun q32 =>
        (fx_st q32 216 ((3 : Int32) + x1) x2).bind fun t33 =>
        some (v26, t33)) else (
        some ((-2 : Int32), q24.2))) else (
      some ((-1 : Int32), q24.2)))
theorem fe_215 {d : Nat} (hd : 1 ≤ d) {x1 : Int32} {x2 : Int32} {σ : fx_S} {q : Int32 × fx_S} (h : fm_215 x1 x2 σ = some q) : fx_E none 215 d 0 [some (.ref 215), some (.int x1), some (.int x2), none] [] σ (some (.int q.1)) q.2 := by
  unfold fm_215 at h
  refine fs_iload_n (k := 1) (p := 1) (by decide +kernel) rfl rfl ?_
  refine fs_i2l (p := 2) (by decide +kernel) rfl ?_
  refine fs_lconst (n := 0) (p := 3) (by decide +kernel) rfl kl_0 ?_
  refine fs_lconst (n := 1) (p := 4) (by decide +kernel) rfl kl_1 ?_
  obtain ⟨q20, w19, h⟩ := fx_bd h
  refine fs_callS (idx := 128) (mj := 130) (na := 3) (mx := 6) (p := 7) (args := [.long (x1).toInt64, .long (0 : Int64), .long (1 : Int64)]) (rest := []) (al2 := [some (.long (x1).toInt64), none, some (.long (0 : Int64)), none, some (.long (1 : Int64)), none]) (by decide +kernel) rfl (by decide +kernel) rfl rfl rfl rfl rfl rfl rfl (by omega) (fun d' hd' => fe_130 (by omega) w19) rfl ?_
  by_cases c21 : (fx_b q20.1) = 0
  · rw [if_pos c21] at h
    refine fs_if_eq_t (off := 13) (t := 20) (by decide +kernel) (by decide +kernel) c21 ?_
    refine fs_iconst (n := -1) (p := 21) (by decide +kernel) rfl kc_m1 ?_
    have h := Option.some.inj h
    subst h
    exact fs_iret (by decide +kernel) rt_215
  · rw [if_neg c21] at h
    refine fs_if_eq_f (off := 13) (t := 20) (p := 10) (by decide +kernel) (by decide +kernel) rfl c21 ?_
    refine fs_iload_n (k := 2) (p := 11) (by decide +kernel) rfl rfl ?_
    refine fs_i2l (p := 12) (by decide +kernel) rfl ?_
    refine fs_lconst (n := 0) (p := 13) (by decide +kernel) rfl kl_0 ?_
    refine fs_lconst (n := 1) (p := 14) (by decide +kernel) rfl kl_1 ?_
    obtain ⟨q24, w23, h⟩ := fx_bd h
    refine fs_callS (idx := 128) (mj := 130) (na := 3) (mx := 6) (p := 17) (args := [.long (x2).toInt64, .long (0 : Int64), .long (1 : Int64)]) (rest := []) (al2 := [some (.long (x2).toInt64), none, some (.long (0 : Int64)), none, some (.long (1 : Int64)), none]) (by decide +kernel) rfl (by decide +kernel) rfl rfl rfl rfl rfl rfl rfl (by omega) (fun d' hd' => fe_130 (by omega) w23) rfl ?_
    by_cases c25 : ¬ (fx_b q24.1) = 0
    · rw [if_pos c25] at h
      refine fs_if_ne_t (off := 5) (t := 22) (by decide +kernel) (by decide +kernel) c25 ?_
      refine fs_aload_n (k := 0) (p := 23) (by decide +kernel) rfl rfl ?_
      refine fs_gfr (idx := 9) (ci := 10) (j := 0) (p := 26) (by decide +kernel) rfl (by decide +kernel) fo_215 (fr_a215_0) ?_
      refine fs_iconst (n := 3) (p := 27) (by decide +kernel) rfl kc_3 ?_
      refine fs_iload_n (k := 1) (p := 28) (by decide +kernel) rfl rfl ?_
      refine fs_iadd (p := 29) (by decide +kernel) rfl ?_
      obtain ⟨v26, w27, h⟩ := fx_bd h
      refine fs_iaload (p := 30) (by decide +kernel) rfl w27 ?_
      refine fs_istore_n (k := 3) (p := 31) (M := 4) (al' := [some (.ref 215), some (.int x1), some (.int x2), some (.int v26)]) (by decide +kernel) rfl mx_215 rfl rfl ?_
      refine fs_iload_n (k := 3) (p := 32) (by decide +kernel) rfl rfl ?_
      refine fs_iload_n (k := 2) (p := 33) (by decide +kernel) rfl rfl ?_
      by_cases c30 : ¬ v26 = x2
      · rw [if_pos c30] at h
        refine fs_icmp_ne_t (off := 6) (t := 39) (by decide +kernel) (by decide +kernel) c30 ?_
        refine fs_aload_n (k := 0) (p := 40) (by decide +kernel) rfl rfl ?_
        obtain ⟨q32, w31, h⟩ := fx_bd h
        refine fs_callV (idx := 170) (mj := 132) (ci := 10) (na := 0) (mx := 2) (p := 43) (args := [.ref 215]) (rest := []) (al2 := [some (.ref 215), none]) (by decide +kernel) rfl (by decide +kernel) fo_215 rfl rfl rfl rfl rfl rfl rfl (by omega) (fun d' hd' => fe_132 (by omega) w31) rfl ?_
        refine fs_aload_n (k := 0) (p := 44) (by decide +kernel) rfl rfl ?_
        refine fs_gfr (idx := 9) (ci := 10) (j := 0) (p := 47) (by decide +kernel) rfl (by decide +kernel) fo_215 (fr_a215_0) ?_
        refine fs_iconst (n := 3) (p := 48) (by decide +kernel) rfl kc_3 ?_
        refine fs_iload_n (k := 1) (p := 49) (by decide +kernel) rfl rfl ?_
        refine fs_iadd (p := 50) (by decide +kernel) rfl ?_
        refine fs_iload_n (k := 2) (p := 51) (by decide +kernel) rfl rfl ?_
        obtain ⟨t33, w34, h⟩ := fx_bd h
        refine fs_iastore (p := 52) (by decide +kernel) rfl w34 ?_
        refine fs_iload_n (k := 3) (p := 53) (by decide +kernel) rfl rfl ?_
        have h := Option.some.inj h
        subst h
        exact fs_iret (by decide +kernel) rt_215
      · rw [if_neg c30] at h
        refine fs_icmp_ne_f (off := 6) (t := 39) (p := 36) (by decide +kernel) (by decide +kernel) rfl c30 ?_
        refine fs_bipush (n := -2) (p := 38) (by decide +kernel) rfl kb_m2 ?_
        have h := Option.some.inj h
        subst h
        exact fs_iret (by decide +kernel) rt_215
    · rw [if_neg c25] at h
      refine fs_if_ne_f (off := 5) (t := 22) (p := 20) (by decide +kernel) (by decide +kernel) rfl c25 ?_
      refine fs_iconst (n := -1) (p := 21) (by decide +kernel) rfl kc_m1 ?_
      have h := Option.some.inj h
      subst h
      exact fs_iret (by decide +kernel) rt_215

/-! ZoneSharesModel.district(II)I -/
theorem mx_216 : iv_mx 216 = 4 := by decide +kernel
theorem rt_216 : iv_rt 216 = some .int := by decide +kernel
def fm_216 (x1 : Int32) (x2 : Int32) (σ : fx_S) : Option (Int32 × fx_S) :=
  (fm_130 (x1).toInt64 (0 : Int64) (7 : Int64) σ).bind fun q20 =>
  if (fx_b q20.1) = 0 then (
    some ((-1 : Int32), q20.2)) else (
    (fm_130 (x2).toInt64 (0 : Int64) (3 : Int64) q20.2).bind fun q24 =>
    if ¬ (fx_b q24.1) = 0 then (
      (fx_ld q24.2 216 ((44 : Int32) + x1)).bind fun v26 =>
      if ¬ v26 = x2 then (
        (fm_132 q24.2).bind fun q32 =>
        (fx_st q32 216 ((44 : Int32) + x1) x2).bind fun t33 =>
        some (v26, t33)) else (
        some ((-2 : Int32), q24.2))) else (
      some ((-1 : Int32), q24.2)))
theorem fe_216 {d : Nat} (hd : 1 ≤ d) {x1 : Int32} {x2 : Int32} {σ : fx_S} {q : Int32 × fx_S} (h : fm_216 x1 x2 σ = some q) : fx_E none 216 d 0 [some (.ref 215), some (.int x1), some (.int x2), none] [] σ (some (.int q.1)) q.2 := by
  unfold fm_216 at h
  refine fs_iload_n (k := 1) (p := 1) (by decide +kernel) rfl rfl ?_
  refine fs_i2l (p := 2) (by decide +kernel) rfl ?_
  refine fs_lconst (n := 0) (p := 3) (by decide +kernel) rfl kl_0 ?_
  refine fs_ldc2 (idx := 308) (p := 6) (x := 7) (by decide +kernel) rfl (by decide +kernel) ?_
  obtain ⟨q20, w19, h⟩ := fx_bd h
  refine fs_callS (idx := 128) (mj := 130) (na := 3) (mx := 6) (p := 9) (args := [.long (x1).toInt64, .long (0 : Int64), .long (7 : Int64)]) (rest := []) (al2 := [some (.long (x1).toInt64), none, some (.long (0 : Int64)), none, some (.long (7 : Int64)), none]) (by decide +kernel) rfl (by decide +kernel) rfl rfl rfl rfl rfl rfl rfl (by omega) (fun d' hd' => fe_130 (by omega) w19) rfl ?_
  by_cases c21 : (fx_b q20.1) = 0
  · rw [if_pos c21] at h
    refine fs_if_eq_t (off := 15) (t := 24) (by decide +kernel) (by decide +kernel) c21 ?_
    refine fs_iconst (n := -1) (p := 25) (by decide +kernel) rfl kc_m1 ?_
    have h := Option.some.inj h
    subst h
    exact fs_iret (by decide +kernel) rt_216
  · rw [if_neg c21] at h
    refine fs_if_eq_f (off := 15) (t := 24) (p := 12) (by decide +kernel) (by decide +kernel) rfl c21 ?_
    refine fs_iload_n (k := 2) (p := 13) (by decide +kernel) rfl rfl ?_
    refine fs_i2l (p := 14) (by decide +kernel) rfl ?_
    refine fs_lconst (n := 0) (p := 15) (by decide +kernel) rfl kl_0 ?_
    refine fs_ldc2 (idx := 327) (p := 18) (x := 3) (by decide +kernel) rfl (by decide +kernel) ?_
    obtain ⟨q24, w23, h⟩ := fx_bd h
    refine fs_callS (idx := 128) (mj := 130) (na := 3) (mx := 6) (p := 21) (args := [.long (x2).toInt64, .long (0 : Int64), .long (3 : Int64)]) (rest := []) (al2 := [some (.long (x2).toInt64), none, some (.long (0 : Int64)), none, some (.long (3 : Int64)), none]) (by decide +kernel) rfl (by decide +kernel) rfl rfl rfl rfl rfl rfl rfl (by omega) (fun d' hd' => fe_130 (by omega) w23) rfl ?_
    by_cases c25 : ¬ (fx_b q24.1) = 0
    · rw [if_pos c25] at h
      refine fs_if_ne_t (off := 5) (t := 26) (by decide +kernel) (by decide +kernel) c25 ?_
      refine fs_aload_n (k := 0) (p := 27) (by decide +kernel) rfl rfl ?_
      refine fs_gfr (idx := 9) (ci := 10) (j := 0) (p := 30) (by decide +kernel) rfl (by decide +kernel) fo_215 (fr_a215_0) ?_
      refine fs_bipush (n := 44) (p := 32) (by decide +kernel) rfl kb_44 ?_
      refine fs_iload_n (k := 1) (p := 33) (by decide +kernel) rfl rfl ?_
      refine fs_iadd (p := 34) (by decide +kernel) rfl ?_
      obtain ⟨v26, w27, h⟩ := fx_bd h
      refine fs_iaload (p := 35) (by decide +kernel) rfl w27 ?_
      refine fs_istore_n (k := 3) (p := 36) (M := 4) (al' := [some (.ref 215), some (.int x1), some (.int x2), some (.int v26)]) (by decide +kernel) rfl mx_216 rfl rfl ?_
      refine fs_iload_n (k := 3) (p := 37) (by decide +kernel) rfl rfl ?_
      refine fs_iload_n (k := 2) (p := 38) (by decide +kernel) rfl rfl ?_
      by_cases c30 : ¬ v26 = x2
      · rw [if_pos c30] at h
        refine fs_icmp_ne_t (off := 6) (t := 44) (by decide +kernel) (by decide +kernel) c30 ?_
        refine fs_aload_n (k := 0) (p := 45) (by decide +kernel) rfl rfl ?_
        obtain ⟨q32, w31, h⟩ := fx_bd h
        refine fs_callV (idx := 170) (mj := 132) (ci := 10) (na := 0) (mx := 2) (p := 48) (args := [.ref 215]) (rest := []) (al2 := [some (.ref 215), none]) (by decide +kernel) rfl (by decide +kernel) fo_215 rfl rfl rfl rfl rfl rfl rfl (by omega) (fun d' hd' => fe_132 (by omega) w31) rfl ?_
        refine fs_aload_n (k := 0) (p := 49) (by decide +kernel) rfl rfl ?_
        refine fs_gfr (idx := 9) (ci := 10) (j := 0) (p := 52) (by decide +kernel) rfl (by decide +kernel) fo_215 (fr_a215_0) ?_
        refine fs_bipush (n := 44) (p := 54) (by decide +kernel) rfl kb_44 ?_
        refine fs_iload_n (k := 1) (p := 55) (by decide +kernel) rfl rfl ?_
        refine fs_iadd (p := 56) (by decide +kernel) rfl ?_
        refine fs_iload_n (k := 2) (p := 57) (by decide +kernel) rfl rfl ?_
        obtain ⟨t33, w34, h⟩ := fx_bd h
        refine fs_iastore (p := 58) (by decide +kernel) rfl w34 ?_
        refine fs_iload_n (k := 3) (p := 59) (by decide +kernel) rfl rfl ?_
        have h := Option.some.inj h
        subst h
        exact fs_iret (by decide +kernel) rt_216
      · rw [if_neg c30] at h
        refine fs_icmp_ne_f (off := 6) (t := 44) (p := 41) (by decide +kernel) (by decide +kernel) rfl c30 ?_
        refine fs_bipush (n := -2) (p := 43) (by decide +kernel) rfl kb_m2 ?_
        have h := Option.some.inj h
        subst h
        exact fs_iret (by decide +kernel) rt_216
    · rw [if_neg c25] at h
      refine fs_if_ne_f (off := 5) (t := 26) (p := 24) (by decide +kernel) (by decide +kernel) rfl c25 ?_
      refine fs_iconst (n := -1) (p := 25) (by decide +kernel) rfl kc_m1 ?_
      have h := Option.some.inj h
      subst h
      exact fs_iret (by decide +kernel) rt_216

/-! ZoneSharesModel.cell(III)I -/
theorem mx_218 : iv_mx 218 = 5 := by decide +kernel
theorem rt_218 : iv_rt 218 = some .int := by decide +kernel
def fm_218 (x1 : Int32) (x2 : Int32) (x3 : Int32) (σ : fx_S) : Option (Int32 × fx_S) :=
  (fm_130 (x1).toInt64 (0 : Int64) (2 : Int64) σ).bind fun q19 =>
  if (fx_b q19.1) = 0 then (
    some ((-1 : Int32), q19.2)) else (
    (fm_144 x1 q19.2).bind fun q22 =>
    if (fx_b q22.1) = 0 then (
      some ((-1 : Int32), q22.2)) else (
      (fm_198 x2 x3 q22.2).bind fun q25 =>
      if ¬ (fx_b q25.1) = 0 then (
        (fx_ld q25.2 216 ((((52 : Int32) + ((96 : Int32) * x1)) + ((12 : Int32) * x2)) + x3)).bind fun v27 =>
        if ¬ x1 = (2 : Int32) then (
          if ¬ v27 = (8 : Int32) then (
            some (((97 : Int32) + v27), q25.2)) else (
            some ((46 : Int32), q25.2))) else (
          some (((48 : Int32) + v27), q25.2))) else (
        some ((-1 : Int32), q25.2))))
theorem fe_218 {d : Nat} (hd : 2 ≤ d) {x1 : Int32} {x2 : Int32} {x3 : Int32} {σ : fx_S} {q : Int32 × fx_S} (h : fm_218 x1 x2 x3 σ = some q) : fx_E none 218 d 0 [some (.ref 215), some (.int x1), some (.int x2), some (.int x3), none] [] σ (some (.int q.1)) q.2 := by
  unfold fm_218 at h
  refine fs_iload_n (k := 1) (p := 1) (by decide +kernel) rfl rfl ?_
  refine fs_i2l (p := 2) (by decide +kernel) rfl ?_
  refine fs_lconst (n := 0) (p := 3) (by decide +kernel) rfl kl_0 ?_
  refine fs_ldc2 (idx := 161) (p := 6) (x := 2) (by decide +kernel) rfl (by decide +kernel) ?_
  obtain ⟨q19, w18, h⟩ := fx_bd h
  refine fs_callS (idx := 128) (mj := 130) (na := 3) (mx := 6) (p := 9) (args := [.long (x1).toInt64, .long (0 : Int64), .long (2 : Int64)]) (rest := []) (al2 := [some (.long (x1).toInt64), none, some (.long (0 : Int64)), none, some (.long (2 : Int64)), none]) (by decide +kernel) rfl (by decide +kernel) rfl rfl rfl rfl rfl rfl rfl (by omega) (fun d' hd' => fe_130 (by omega) w18) rfl ?_
  by_cases c20 : (fx_b q19.1) = 0
  · rw [if_pos c20] at h
    refine fs_if_eq_t (off := 20) (t := 29) (by decide +kernel) (by decide +kernel) c20 ?_
    refine fs_iconst (n := -1) (p := 30) (by decide +kernel) rfl kc_m1 ?_
    have h := Option.some.inj h
    subst h
    exact fs_iret (by decide +kernel) rt_218
  · rw [if_neg c20] at h
    refine fs_if_eq_f (off := 20) (t := 29) (p := 12) (by decide +kernel) (by decide +kernel) rfl c20 ?_
    refine fs_aload_n (k := 0) (p := 13) (by decide +kernel) rfl rfl ?_
    refine fs_iload_n (k := 1) (p := 14) (by decide +kernel) rfl rfl ?_
    obtain ⟨q22, w21, h⟩ := fx_bd h
    refine fs_callV (idx := 163) (mj := 144) (ci := 10) (na := 1) (mx := 2) (p := 17) (args := [.ref 215, .int x1]) (rest := []) (al2 := [some (.ref 215), some (.int x1)]) (by decide +kernel) rfl (by decide +kernel) fo_215 rfl rfl rfl rfl rfl rfl rfl (by omega) (fun d' hd' => fe_144 (by omega) w21) rfl ?_
    by_cases c23 : (fx_b q22.1) = 0
    · rw [if_pos c23] at h
      refine fs_if_eq_t (off := 12) (t := 29) (by decide +kernel) (by decide +kernel) c23 ?_
      refine fs_iconst (n := -1) (p := 30) (by decide +kernel) rfl kc_m1 ?_
      have h := Option.some.inj h
      subst h
      exact fs_iret (by decide +kernel) rt_218
    · rw [if_neg c23] at h
      refine fs_if_eq_f (off := 12) (t := 29) (p := 20) (by decide +kernel) (by decide +kernel) rfl c23 ?_
      refine fs_aload_n (k := 0) (p := 21) (by decide +kernel) rfl rfl ?_
      refine fs_iload_n (k := 2) (p := 22) (by decide +kernel) rfl rfl ?_
      refine fs_iload_n (k := 3) (p := 23) (by decide +kernel) rfl rfl ?_
      obtain ⟨q25, w24, h⟩ := fx_bd h
      refine fs_callV (idx := 346) (mj := 198) (ci := 10) (na := 2) (mx := 3) (p := 26) (args := [.ref 215, .int x2, .int x3]) (rest := []) (al2 := [some (.ref 215), some (.int x2), some (.int x3)]) (by decide +kernel) rfl (by decide +kernel) fo_215 rfl rfl rfl rfl rfl rfl rfl (by omega) (fun d' hd' => fe_198 (by omega) w24) rfl ?_
      by_cases c26 : ¬ (fx_b q25.1) = 0
      · rw [if_pos c26] at h
        refine fs_if_ne_t (off := 5) (t := 31) (by decide +kernel) (by decide +kernel) c26 ?_
        refine fs_aload_n (k := 0) (p := 32) (by decide +kernel) rfl rfl ?_
        refine fs_gfr (idx := 9) (ci := 10) (j := 0) (p := 35) (by decide +kernel) rfl (by decide +kernel) fo_215 (fr_a215_0) ?_
        refine fs_bipush (n := 52) (p := 37) (by decide +kernel) rfl kb_52 ?_
        refine fs_bipush (n := 96) (p := 39) (by decide +kernel) rfl kb_96 ?_
        refine fs_iload_n (k := 1) (p := 40) (by decide +kernel) rfl rfl ?_
        refine fs_imul (p := 41) (by decide +kernel) rfl ?_
        refine fs_iadd (p := 42) (by decide +kernel) rfl ?_
        refine fs_bipush (n := 12) (p := 44) (by decide +kernel) rfl kb_12 ?_
        refine fs_iload_n (k := 2) (p := 45) (by decide +kernel) rfl rfl ?_
        refine fs_imul (p := 46) (by decide +kernel) rfl ?_
        refine fs_iadd (p := 47) (by decide +kernel) rfl ?_
        refine fs_iload_n (k := 3) (p := 48) (by decide +kernel) rfl rfl ?_
        refine fs_iadd (p := 49) (by decide +kernel) rfl ?_
        obtain ⟨v27, w28, h⟩ := fx_bd h
        refine fs_iaload (p := 50) (by decide +kernel) rfl w28 ?_
        refine fs_istore (k := 4) (p := 52) (M := 5) (al' := [some (.ref 215), some (.int x1), some (.int x2), some (.int x3), some (.int v27)]) (by decide +kernel) rfl mx_218 rfl rfl ?_
        refine fs_iload_n (k := 1) (p := 53) (by decide +kernel) rfl rfl ?_
        refine fs_iconst (n := 2) (p := 54) (by decide +kernel) rfl kc_2 ?_
        by_cases c30 : ¬ x1 = (2 : Int32)
        · rw [if_pos c30] at h
          refine fs_icmp_ne_t (off := 11) (t := 65) (by decide +kernel) (by decide +kernel) c30 ?_
          refine fs_iload (k := 4) (p := 67) (by decide +kernel) rfl rfl ?_
          refine fs_bipush (n := 8) (p := 69) (by decide +kernel) rfl kb_8 ?_
          by_cases c32 : ¬ v27 = (8 : Int32)
          · rw [if_pos c32] at h
            refine fs_icmp_ne_t (off := 8) (t := 77) (by decide +kernel) (by decide +kernel) c32 ?_
            refine fs_bipush (n := 97) (p := 79) (by decide +kernel) rfl kb_97 ?_
            refine fs_iload (k := 4) (p := 81) (by decide +kernel) rfl rfl ?_
            refine fs_iadd (p := 82) (by decide +kernel) rfl ?_
            have h := Option.some.inj h
            subst h
            exact fs_iret (by decide +kernel) rt_218
          · rw [if_neg c32] at h
            refine fs_icmp_ne_f (off := 8) (t := 77) (p := 72) (by decide +kernel) (by decide +kernel) rfl c32 ?_
            refine fs_bipush (n := 46) (p := 74) (by decide +kernel) rfl kb_46 ?_
            refine fs_goto (off := 8) (p := 82) (by decide +kernel) (by decide +kernel) ?_
            have h := Option.some.inj h
            subst h
            exact fs_iret (by decide +kernel) rt_218
        · rw [if_neg c30] at h
          refine fs_icmp_ne_f (off := 11) (t := 65) (p := 57) (by decide +kernel) (by decide +kernel) rfl c30 ?_
          refine fs_bipush (n := 48) (p := 59) (by decide +kernel) rfl kb_48 ?_
          refine fs_iload (k := 4) (p := 61) (by decide +kernel) rfl rfl ?_
          refine fs_iadd (p := 62) (by decide +kernel) rfl ?_
          refine fs_goto (off := 20) (p := 82) (by decide +kernel) (by decide +kernel) ?_
          have h := Option.some.inj h
          subst h
          exact fs_iret (by decide +kernel) rt_218
      · rw [if_neg c26] at h
        refine fs_if_ne_f (off := 5) (t := 31) (p := 29) (by decide +kernel) (by decide +kernel) rfl c26 ?_
        refine fs_iconst (n := -1) (p := 30) (by decide +kernel) rfl kc_m1 ?_
        have h := Option.some.inj h
        subst h
        exact fs_iret (by decide +kernel) rt_218

/-! ZoneSharesModel.pieceCells(III)I -/
theorem mx_219 : iv_mx 219 = 6 := by decide +kernel
theorem rt_219 : iv_rt 219 = some .int := by decide +kernel
def fm_219_55 (k_6 : Int32 → Int32 → Int32 → Int32 → Int32 → fx_S → Option (Int32 × fx_S)) (x1 : Int32) (x2 : Int32) (x3 : Int32) (x5 : Int32) (s0 : Int32) (s1 : Int32) (σ : fx_S) : Option (Int32 × fx_S) :=
  (fm_131 s1 σ).bind fun q2 =>
  k_6 x1 x2 x3 (s0 + q2.1) (x5 + (1 : Int32)) q2.2
theorem fe_219_55 {d : Nat} (hd : 1 ≤ d) {k_6 : Int32 → Int32 → Int32 → Int32 → Int32 → fx_S → Option (Int32 × fx_S)} (hk_6 : ∀ (x1 : Int32) (x2 : Int32) (x3 : Int32) (x4 : Int32) (x5 : Int32) (σ : fx_S) (q : Int32 × fx_S), k_6 x1 x2 x3 x4 x5 σ = some q → fx_E none 219 d 6 [some (.ref 215), some (.int x1), some (.int x2), some (.int x3), some (.int x4), some (.int x5)] [] σ (some (.int q.1)) q.2) (x1 : Int32) (x2 : Int32) (x3 : Int32) (x5 : Int32) (s0 : Int32) (s1 : Int32) (o4 : Option Value) (σ : fx_S) (q : Int32 × fx_S) (h : fm_219_55 k_6  x1 x2 x3 x5 s0 s1 σ = some q) : fx_E none 219 d 55 [some (.ref 215), some (.int x1), some (.int x2), some (.int x3), o4, some (.int x5)] [.int s1, .int s0] σ (some (.int q.1)) q.2 := by
  unfold fm_219_55 at h
  obtain ⟨q2, w1, h⟩ := fx_bd h
  refine fs_callS (idx := 186) (mj := 131) (na := 1) (mx := 1) (p := 58) (args := [.int s1]) (rest := [.int s0]) (al2 := [some (.int s1)]) (by decide +kernel) rfl (by decide +kernel) rfl rfl rfl rfl rfl rfl rfl (by omega) (fun d' hd' => fe_131 (by omega) w1) rfl ?_
  refine fs_iadd (p := 59) (by decide +kernel) rfl ?_
  refine fs_istore (k := 4) (p := 61) (M := 6) (al' := [some (.ref 215), some (.int x1), some (.int x2), some (.int x3), some (.int (s0 + q2.1)), some (.int x5)]) (by decide +kernel) rfl mx_219 rfl rfl ?_
  refine fs_iinc (k := 5) (n := 1) (p := 64) (M := 6) (al' := [some (.ref 215), some (.int x1), some (.int x2), some (.int x3), some (.int (s0 + q2.1)), some (.int (x5 + (1 : Int32)))]) (by decide +kernel) rfl kc_1 mx_219 rfl rfl rfl ?_
  refine fs_goto (off := -58) (p := 6) (by decide +kernel) (by decide +kernel) ?_
  exact hk_6 _ _ _ _ _ _ _ h
def fm_219_6 : Nat → Int32 → Int32 → Int32 → Int32 → Int32 → fx_S → Option (Int32 × fx_S)
  | 0, _, _, _, _, _, _ => none
  | n + 1, x1, x2, x3, x4, x5, σ =>
    (fm_151 σ).bind fun q2 =>
    if q2.1 ≤ x5 then (
      some (x4, q2.2)) else (
      (fm_152 (0 : Int32) x5 q2.2).bind fun q7 =>
      if ¬ q7.1 = x1 then (
        fm_219_55 (fm_219_6 n) x1 x2 x3 x5 x4 (0 : Int32) q7.2) else (
        (fm_152 (1 : Int32) x5 q7.2).bind fun q12 =>
        if ¬ q12.1 = x2 then (
          fm_219_55 (fm_219_6 n) x1 x2 x3 x5 x4 (0 : Int32) q12.2) else (
          (fm_152 (2 : Int32) x5 q12.2).bind fun q17 =>
          if ¬ q17.1 = x3 then (
            fm_219_55 (fm_219_6 n) x1 x2 x3 x5 x4 (0 : Int32) q17.2) else (
            fm_219_55 (fm_219_6 n) x1 x2 x3 x5 x4 (1 : Int32) q17.2))))
theorem fe_219_6 {d : Nat} (hd : 1 ≤ d) : ∀ (n : Nat) (x1 : Int32) (x2 : Int32) (x3 : Int32) (x4 : Int32) (x5 : Int32) (σ : fx_S) (q : Int32 × fx_S), fm_219_6 n x1 x2 x3 x4 x5 σ = some q → fx_E none 219 d 6 [some (.ref 215), some (.int x1), some (.int x2), some (.int x3), some (.int x4), some (.int x5)] [] σ (some (.int q.1)) q.2 := by
  intro n
  induction n with
  | zero =>
    intro x1 x2 x3 x4 x5 σ q  h
    rw [fm_219_6] at h
    exact fx_no h
  | succ n ih =>
    intro x1 x2 x3 x4 x5 σ q  h
    rw [fm_219_6] at h
    refine fs_iload (k := 5) (p := 8) (by decide +kernel) rfl rfl ?_
    refine fs_aload_n (k := 0) (p := 9) (by decide +kernel) rfl rfl ?_
    obtain ⟨q2, w1, h⟩ := fx_bd h
    refine fs_callV (idx := 196) (mj := 151) (ci := 10) (na := 0) (mx := 1) (p := 12) (args := [.ref 215]) (rest := [.int x5]) (al2 := [some (.ref 215)]) (by decide +kernel) rfl (by decide +kernel) fo_215 rfl rfl rfl rfl rfl rfl rfl (by omega) (fun d' hd' => fe_151 (by omega) w1) rfl ?_
    by_cases c5 : q2.1 ≤ x5
    · rw [if_pos c5] at h
      refine fs_icmp_ge_t (off := 55) (t := 67) (by decide +kernel) (by decide +kernel) c5 ?_
      refine fs_iload (k := 4) (p := 69) (by decide +kernel) rfl rfl ?_
      have h := Option.some.inj h
      subst h
      exact fs_iret (by decide +kernel) rt_219
    · rw [if_neg c5] at h
      refine fs_icmp_ge_f (off := 55) (t := 67) (p := 15) (by decide +kernel) (by decide +kernel) rfl c5 ?_
      refine fs_iload (k := 4) (p := 17) (by decide +kernel) rfl rfl ?_
      refine fs_aload_n (k := 0) (p := 18) (by decide +kernel) rfl rfl ?_
      refine fs_iconst (n := 0) (p := 19) (by decide +kernel) rfl kc_0 ?_
      refine fs_iload (k := 5) (p := 21) (by decide +kernel) rfl rfl ?_
      obtain ⟨q7, w6, h⟩ := fx_bd h
      refine fs_callV (idx := 199) (mj := 152) (ci := 10) (na := 2) (mx := 3) (p := 24) (args := [.ref 215, .int (0 : Int32), .int x5]) (rest := [.int x4]) (al2 := [some (.ref 215), some (.int (0 : Int32)), some (.int x5)]) (by decide +kernel) rfl (by decide +kernel) fo_215 rfl rfl rfl rfl rfl rfl rfl (by omega) (fun d' hd' => fe_152 (by omega) w6) rfl ?_
      refine fs_iload_n (k := 1) (p := 25) (by decide +kernel) rfl rfl ?_
      by_cases c10 : ¬ q7.1 = x1
      · rw [if_pos c10] at h
        refine fs_icmp_ne_t (off := 29) (t := 54) (by decide +kernel) (by decide +kernel) c10 ?_
        refine fs_iconst (n := 0) (p := 55) (by decide +kernel) rfl kc_0 ?_
        exact fe_219_55 hd ih _ _ _ _ _ _ _ _ _ h
      · rw [if_neg c10] at h
        refine fs_icmp_ne_f (off := 29) (t := 54) (p := 28) (by decide +kernel) (by decide +kernel) rfl c10 ?_
        refine fs_aload_n (k := 0) (p := 29) (by decide +kernel) rfl rfl ?_
        refine fs_iconst (n := 1) (p := 30) (by decide +kernel) rfl kc_1 ?_
        refine fs_iload (k := 5) (p := 32) (by decide +kernel) rfl rfl ?_
        obtain ⟨q12, w11, h⟩ := fx_bd h
        refine fs_callV (idx := 199) (mj := 152) (ci := 10) (na := 2) (mx := 3) (p := 35) (args := [.ref 215, .int (1 : Int32), .int x5]) (rest := [.int x4]) (al2 := [some (.ref 215), some (.int (1 : Int32)), some (.int x5)]) (by decide +kernel) rfl (by decide +kernel) fo_215 rfl rfl rfl rfl rfl rfl rfl (by omega) (fun d' hd' => fe_152 (by omega) w11) rfl ?_
        refine fs_iload_n (k := 2) (p := 36) (by decide +kernel) rfl rfl ?_
        by_cases c15 : ¬ q12.1 = x2
        · rw [if_pos c15] at h
          refine fs_icmp_ne_t (off := 18) (t := 54) (by decide +kernel) (by decide +kernel) c15 ?_
          refine fs_iconst (n := 0) (p := 55) (by decide +kernel) rfl kc_0 ?_
          exact fe_219_55 hd ih _ _ _ _ _ _ _ _ _ h
        · rw [if_neg c15] at h
          refine fs_icmp_ne_f (off := 18) (t := 54) (p := 39) (by decide +kernel) (by decide +kernel) rfl c15 ?_
          refine fs_aload_n (k := 0) (p := 40) (by decide +kernel) rfl rfl ?_
          refine fs_iconst (n := 2) (p := 41) (by decide +kernel) rfl kc_2 ?_
          refine fs_iload (k := 5) (p := 43) (by decide +kernel) rfl rfl ?_
          obtain ⟨q17, w16, h⟩ := fx_bd h
          refine fs_callV (idx := 199) (mj := 152) (ci := 10) (na := 2) (mx := 3) (p := 46) (args := [.ref 215, .int (2 : Int32), .int x5]) (rest := [.int x4]) (al2 := [some (.ref 215), some (.int (2 : Int32)), some (.int x5)]) (by decide +kernel) rfl (by decide +kernel) fo_215 rfl rfl rfl rfl rfl rfl rfl (by omega) (fun d' hd' => fe_152 (by omega) w16) rfl ?_
          refine fs_iload_n (k := 3) (p := 47) (by decide +kernel) rfl rfl ?_
          by_cases c20 : ¬ q17.1 = x3
          · rw [if_pos c20] at h
            refine fs_icmp_ne_t (off := 7) (t := 54) (by decide +kernel) (by decide +kernel) c20 ?_
            refine fs_iconst (n := 0) (p := 55) (by decide +kernel) rfl kc_0 ?_
            exact fe_219_55 hd ih _ _ _ _ _ _ _ _ _ h
          · rw [if_neg c20] at h
            refine fs_icmp_ne_f (off := 7) (t := 54) (p := 50) (by decide +kernel) (by decide +kernel) rfl c20 ?_
            refine fs_iconst (n := 1) (p := 51) (by decide +kernel) rfl kc_1 ?_
            refine fs_goto (off := 4) (p := 55) (by decide +kernel) (by decide +kernel) ?_
            exact fe_219_55 hd ih _ _ _ _ _ _ _ _ _ h
def fm_219 (x1 : Int32) (x2 : Int32) (x3 : Int32) (σ : fx_S) : Option (Int32 × fx_S) :=
  fm_219_6 100000 x1 x2 x3 (0 : Int32) (0 : Int32) σ
theorem fe_219 {d : Nat} (hd : 1 ≤ d) {x1 : Int32} {x2 : Int32} {x3 : Int32} {σ : fx_S} {q : Int32 × fx_S} (h : fm_219 x1 x2 x3 σ = some q) : fx_E none 219 d 0 [some (.ref 215), some (.int x1), some (.int x2), some (.int x3), none, none] [] σ (some (.int q.1)) q.2 := by
  unfold fm_219 at h
  refine fs_iconst (n := 0) (p := 1) (by decide +kernel) rfl kc_0 ?_
  refine fs_istore (k := 4) (p := 3) (M := 6) (al' := [some (.ref 215), some (.int x1), some (.int x2), some (.int x3), some (.int (0 : Int32)), none]) (by decide +kernel) rfl mx_219 rfl rfl ?_
  refine fs_iconst (n := 0) (p := 4) (by decide +kernel) rfl kc_0 ?_
  refine fs_istore (k := 5) (p := 6) (M := 6) (al' := [some (.ref 215), some (.int x1), some (.int x2), some (.int x3), some (.int (0 : Int32)), some (.int (0 : Int32))]) (by decide +kernel) rfl mx_219 rfl rfl ?_
  exact fe_219_6 hd 100000 _ _ _ _ _ _ _ h

/-! ZoneSharesModel.piece(II)I -/
theorem mx_220 : iv_mx 220 = 8 := by decide +kernel
theorem rt_220 : iv_rt 220 = some .int := by decide +kernel
def fm_220_124 (k_31 : Int32 → Int32 → Int32 → Int32 → fx_S → Option (Int32 × fx_S)) (x1 : Int32) (x2 : Int32) (x4 : Int32) (s0 : Int32) (s1 : Int32) (σ : fx_S) : Option (Int32 × fx_S) :=
  (fm_131 s1 σ).bind fun q2 =>
  k_31 x1 x2 (s0 + q2.1) (x4 + (1 : Int32)) q2.2
theorem fe_220_124 {d : Nat} (hd : 2 ≤ d) {k_31 : Int32 → Int32 → Int32 → Int32 → fx_S → Option (Int32 × fx_S)} (hk_31 : ∀ (x1 : Int32) (x2 : Int32) (x3 : Int32) (x4 : Int32) (o5 : Option Value) (o6 : Option Value) (o7 : Option Value) (σ : fx_S) (q : Int32 × fx_S), k_31 x1 x2 x3 x4 σ = some q → fx_E none 220 d 31 [some (.ref 215), some (.int x1), some (.int x2), some (.int x3), some (.int x4), o5, o6, o7] [] σ (some (.int q.1)) q.2) (x1 : Int32) (x2 : Int32) (x4 : Int32) (s0 : Int32) (s1 : Int32) (o3 : Option Value) (o5 : Option Value) (o6 : Option Value) (o7 : Option Value) (σ : fx_S) (q : Int32 × fx_S) (h : fm_220_124 k_31  x1 x2 x4 s0 s1 σ = some q) : fx_E none 220 d 124 [some (.ref 215), some (.int x1), some (.int x2), o3, some (.int x4), o5, o6, o7] [.int s1, .int s0] σ (some (.int q.1)) q.2 := by
  unfold fm_220_124 at h
  obtain ⟨q2, w1, h⟩ := fx_bd h
  refine fs_callS (idx := 186) (mj := 131) (na := 1) (mx := 1) (p := 127) (args := [.int s1]) (rest := [.int s0]) (al2 := [some (.int s1)]) (by decide +kernel) rfl (by decide +kernel) rfl rfl rfl rfl rfl rfl rfl (by omega) (fun d' hd' => fe_131 (by omega) w1) rfl ?_
  refine fs_iadd (p := 128) (by decide +kernel) rfl ?_
  refine fs_istore_n (k := 3) (p := 129) (M := 8) (al' := [some (.ref 215), some (.int x1), some (.int x2), some (.int (s0 + q2.1)), some (.int x4), o5, o6, o7]) (by decide +kernel) rfl mx_220 rfl rfl ?_
  refine fs_iinc (k := 4) (n := 1) (p := 132) (M := 8) (al' := [some (.ref 215), some (.int x1), some (.int x2), some (.int (s0 + q2.1)), some (.int (x4 + (1 : Int32))), o5, o6, o7]) (by decide +kernel) rfl kc_1 mx_220 rfl rfl rfl ?_
  refine fs_goto (off := -101) (p := 31) (by decide +kernel) (by decide +kernel) ?_
  exact hk_31 _ _ _ _ _ _ _ _ _ h
def fm_220_113 (k_31 : Int32 → Int32 → Int32 → Int32 → fx_S → Option (Int32 × fx_S)) (x1 : Int32) (x2 : Int32) (x3 : Int32) (x4 : Int32) (x7 : Int32) (σ : fx_S) : Option (Int32 × fx_S) :=
  if x7 ≤ 0 then (
    fm_220_124 k_31 x1 x2 x4 x3 (0 : Int32) σ) else (
    fm_220_124 k_31 x1 x2 x4 x3 (1 : Int32) σ)
theorem fe_220_113 {d : Nat} (hd : 2 ≤ d) {k_31 : Int32 → Int32 → Int32 → Int32 → fx_S → Option (Int32 × fx_S)} (hk_31 : ∀ (x1 : Int32) (x2 : Int32) (x3 : Int32) (x4 : Int32) (o5 : Option Value) (o6 : Option Value) (o7 : Option Value) (σ : fx_S) (q : Int32 × fx_S), k_31 x1 x2 x3 x4 σ = some q → fx_E none 220 d 31 [some (.ref 215), some (.int x1), some (.int x2), some (.int x3), some (.int x4), o5, o6, o7] [] σ (some (.int q.1)) q.2) (x1 : Int32) (x2 : Int32) (x3 : Int32) (x4 : Int32) (x7 : Int32) (o5 : Option Value) (o6 : Option Value) (σ : fx_S) (q : Int32 × fx_S) (h : fm_220_113 k_31  x1 x2 x3 x4 x7 σ = some q) : fx_E none 220 d 113 [some (.ref 215), some (.int x1), some (.int x2), some (.int x3), some (.int x4), o5, o6, some (.int x7)] [] σ (some (.int q.1)) q.2 := by
  unfold fm_220_113 at h
  refine fs_iload_n (k := 3) (p := 114) (by decide +kernel) rfl rfl ?_
  refine fs_iload (k := 7) (p := 116) (by decide +kernel) rfl rfl ?_
  by_cases c2 : x7 ≤ 0
  · rw [if_pos c2] at h
    refine fs_if_le_t (off := 7) (t := 123) (by decide +kernel) (by decide +kernel) c2 ?_
    refine fs_iconst (n := 0) (p := 124) (by decide +kernel) rfl kc_0 ?_
    exact fe_220_124 hd hk_31 _ _ _ _ _ _ _ _ _ _ _ h
  · rw [if_neg c2] at h
    refine fs_if_le_f (off := 7) (t := 123) (p := 119) (by decide +kernel) (by decide +kernel) rfl c2 ?_
    refine fs_iconst (n := 1) (p := 120) (by decide +kernel) rfl kc_1 ?_
    refine fs_goto (off := 4) (p := 124) (by decide +kernel) (by decide +kernel) ?_
    exact fe_220_124 hd hk_31 _ _ _ _ _ _ _ _ _ _ _ h
def fm_220_31 : Nat → Int32 → Int32 → Int32 → Int32 → fx_S → Option (Int32 × fx_S)
  | 0, _, _, _, _, _ => none
  | n + 1, x1, x2, x3, x4, σ =>
    if (288 : Int32) ≤ x4 then (
      if ¬ x1 = (-1 : Int32) then (
        some ((-1 : Int32), σ)) else (
        some (x3, σ))) else (
      (fm_219 (x4 / (36 : Int32)) ((x4 / (4 : Int32)) - (x4 / (4 : Int32)) / (9 : Int32) * (9 : Int32)) (x4 - x4 / (4 : Int32) * (4 : Int32)) σ).bind fun q8 =>
      if q8.1 ≤ 0 then (
        fm_220_113 (fm_220_31 n) x1 x2 x3 x4 q8.1 q8.2) else (
        if ¬ x3 = x1 then (
          fm_220_113 (fm_220_31 n) x1 x2 x3 x4 q8.1 q8.2) else (
          if ¬ x2 = 0 then (
            if ¬ x2 = (1 : Int32) then (
              if ¬ x2 = (2 : Int32) then (
                some (q8.1, q8.2)) else (
                some ((x4 - x4 / (4 : Int32) * (4 : Int32)), q8.2))) else (
              some (((x4 / (4 : Int32)) - (x4 / (4 : Int32)) / (9 : Int32) * (9 : Int32)), q8.2))) else (
            some ((x4 / (36 : Int32)), q8.2)))))
theorem fe_220_31 {d : Nat} (hd : 2 ≤ d) : ∀ (n : Nat) (x1 : Int32) (x2 : Int32) (x3 : Int32) (x4 : Int32) (o5 : Option Value) (o6 : Option Value) (o7 : Option Value) (σ : fx_S) (q : Int32 × fx_S), fm_220_31 n x1 x2 x3 x4 σ = some q → fx_E none 220 d 31 [some (.ref 215), some (.int x1), some (.int x2), some (.int x3), some (.int x4), o5, o6, o7] [] σ (some (.int q.1)) q.2 := by
  intro n
  induction n with
  | zero =>
    intro x1 x2 x3 x4 o5 o6 o7 σ q  h
    rw [fm_220_31] at h
    exact fx_no h
  | succ n ih =>
    intro x1 x2 x3 x4 o5 o6 o7 σ q  h
    rw [fm_220_31] at h
    refine fs_iload (k := 4) (p := 33) (by decide +kernel) rfl rfl ?_
    refine fs_sipush (n := 288) (p := 36) (by decide +kernel) rfl ks_288 ?_
    by_cases c2 : (288 : Int32) ≤ x4
    · rw [if_pos c2] at h
      refine fs_icmp_ge_t (off := 99) (t := 135) (by decide +kernel) (by decide +kernel) c2 ?_
      refine fs_iload_n (k := 1) (p := 136) (by decide +kernel) rfl rfl ?_
      refine fs_iconst (n := -1) (p := 137) (by decide +kernel) rfl kc_m1 ?_
      by_cases c4 : ¬ x1 = (-1 : Int32)
      · rw [if_pos c4] at h
        refine fs_icmp_ne_t (off := 7) (t := 144) (by decide +kernel) (by decide +kernel) c4 ?_
        refine fs_iconst (n := -1) (p := 145) (by decide +kernel) rfl kc_m1 ?_
        have h := Option.some.inj h
        subst h
        exact fs_iret (by decide +kernel) rt_220
      · rw [if_neg c4] at h
        refine fs_icmp_ne_f (off := 7) (t := 144) (p := 140) (by decide +kernel) (by decide +kernel) rfl c4 ?_
        refine fs_iload_n (k := 3) (p := 141) (by decide +kernel) rfl rfl ?_
        refine fs_goto (off := 4) (p := 145) (by decide +kernel) (by decide +kernel) ?_
        have h := Option.some.inj h
        subst h
        exact fs_iret (by decide +kernel) rt_220
    · rw [if_neg c2] at h
      refine fs_icmp_ge_f (off := 99) (t := 135) (p := 39) (by decide +kernel) (by decide +kernel) rfl c2 ?_
      refine fs_iload (k := 4) (p := 41) (by decide +kernel) rfl rfl ?_
      refine fs_bipush (n := 36) (p := 43) (by decide +kernel) rfl kb_36 ?_
      refine fs_idiv (p := 44) (by decide +kernel) rfl (by decide) ?_
      refine fs_istore (k := 5) (p := 46) (M := 8) (al' := [some (.ref 215), some (.int x1), some (.int x2), some (.int x3), some (.int x4), some (.int (x4 / (36 : Int32))), o6, o7]) (by decide +kernel) rfl mx_220 rfl rfl ?_
      refine fs_iload (k := 4) (p := 48) (by decide +kernel) rfl rfl ?_
      refine fs_iconst (n := 4) (p := 49) (by decide +kernel) rfl kc_4 ?_
      refine fs_idiv (p := 50) (by decide +kernel) rfl (by decide) ?_
      refine fs_bipush (n := 9) (p := 52) (by decide +kernel) rfl kb_9 ?_
      refine fs_irem (p := 53) (by decide +kernel) rfl (by decide) ?_
      refine fs_istore (k := 6) (p := 55) (M := 8) (al' := [some (.ref 215), some (.int x1), some (.int x2), some (.int x3), some (.int x4), some (.int (x4 / (36 : Int32))), some (.int ((x4 / (4 : Int32)) - (x4 / (4 : Int32)) / (9 : Int32) * (9 : Int32))), o7]) (by decide +kernel) rfl mx_220 rfl rfl ?_
      refine fs_aload_n (k := 0) (p := 56) (by decide +kernel) rfl rfl ?_
      refine fs_iload (k := 5) (p := 58) (by decide +kernel) rfl rfl ?_
      refine fs_iload (k := 6) (p := 60) (by decide +kernel) rfl rfl ?_
      refine fs_iload (k := 4) (p := 62) (by decide +kernel) rfl rfl ?_
      refine fs_iconst (n := 4) (p := 63) (by decide +kernel) rfl kc_4 ?_
      refine fs_irem (p := 64) (by decide +kernel) rfl (by decide) ?_
      obtain ⟨q8, w7, h⟩ := fx_bd h
      refine fs_callV (idx := 431) (mj := 219) (ci := 10) (na := 3) (mx := 6) (p := 67) (args := [.ref 215, .int (x4 / (36 : Int32)), .int ((x4 / (4 : Int32)) - (x4 / (4 : Int32)) / (9 : Int32) * (9 : Int32)), .int (x4 - x4 / (4 : Int32) * (4 : Int32))]) (rest := []) (al2 := [some (.ref 215), some (.int (x4 / (36 : Int32))), some (.int ((x4 / (4 : Int32)) - (x4 / (4 : Int32)) / (9 : Int32) * (9 : Int32))), some (.int (x4 - x4 / (4 : Int32) * (4 : Int32))), none, none]) (by decide +kernel) rfl (by decide +kernel) fo_215 rfl rfl rfl rfl rfl rfl rfl (by omega) (fun d' hd' => fe_219 (by omega) w7) rfl ?_
      refine fs_istore (k := 7) (p := 69) (M := 8) (al' := [some (.ref 215), some (.int x1), some (.int x2), some (.int x3), some (.int x4), some (.int (x4 / (36 : Int32))), some (.int ((x4 / (4 : Int32)) - (x4 / (4 : Int32)) / (9 : Int32) * (9 : Int32))), some (.int q8.1)]) (by decide +kernel) rfl mx_220 rfl rfl ?_
      refine fs_iload (k := 7) (p := 71) (by decide +kernel) rfl rfl ?_
      by_cases c10 : q8.1 ≤ 0
      · rw [if_pos c10] at h
        refine fs_if_le_t (off := 42) (t := 113) (by decide +kernel) (by decide +kernel) c10 ?_
        exact fe_220_113 hd ih _ _ _ _ _ _ _ _ _ h
      · rw [if_neg c10] at h
        refine fs_if_le_f (off := 42) (t := 113) (p := 74) (by decide +kernel) (by decide +kernel) rfl c10 ?_
        refine fs_iload_n (k := 3) (p := 75) (by decide +kernel) rfl rfl ?_
        refine fs_iload_n (k := 1) (p := 76) (by decide +kernel) rfl rfl ?_
        by_cases c13 : ¬ x3 = x1
        · rw [if_pos c13] at h
          refine fs_icmp_ne_t (off := 37) (t := 113) (by decide +kernel) (by decide +kernel) c13 ?_
          exact fe_220_113 hd ih _ _ _ _ _ _ _ _ _ h
        · rw [if_neg c13] at h
          refine fs_icmp_ne_f (off := 37) (t := 113) (p := 79) (by decide +kernel) (by decide +kernel) rfl c13 ?_
          refine fs_iload_n (k := 2) (p := 80) (by decide +kernel) rfl rfl ?_
          by_cases c15 : ¬ x2 = 0
          · rw [if_pos c15] at h
            refine fs_if_ne_t (off := 8) (t := 88) (by decide +kernel) (by decide +kernel) c15 ?_
            refine fs_iload_n (k := 2) (p := 89) (by decide +kernel) rfl rfl ?_
            refine fs_iconst (n := 1) (p := 90) (by decide +kernel) rfl kc_1 ?_
            by_cases c16 : ¬ x2 = (1 : Int32)
            · rw [if_pos c16] at h
              refine fs_icmp_ne_t (off := 8) (t := 98) (by decide +kernel) (by decide +kernel) c16 ?_
              refine fs_iload_n (k := 2) (p := 99) (by decide +kernel) rfl rfl ?_
              refine fs_iconst (n := 2) (p := 100) (by decide +kernel) rfl kc_2 ?_
              by_cases c17 : ¬ x2 = (2 : Int32)
              · rw [if_pos c17] at h
                refine fs_icmp_ne_t (off := 10) (t := 110) (by decide +kernel) (by decide +kernel) c17 ?_
                refine fs_iload (k := 7) (p := 112) (by decide +kernel) rfl rfl ?_
                have h := Option.some.inj h
                subst h
                exact fs_iret (by decide +kernel) rt_220
              · rw [if_neg c17] at h
                refine fs_icmp_ne_f (off := 10) (t := 110) (p := 103) (by decide +kernel) (by decide +kernel) rfl c17 ?_
                refine fs_iload (k := 4) (p := 105) (by decide +kernel) rfl rfl ?_
                refine fs_iconst (n := 4) (p := 106) (by decide +kernel) rfl kc_4 ?_
                refine fs_irem (p := 107) (by decide +kernel) rfl (by decide) ?_
                refine fs_goto (off := 5) (p := 112) (by decide +kernel) (by decide +kernel) ?_
                have h := Option.some.inj h
                subst h
                exact fs_iret (by decide +kernel) rt_220
            · rw [if_neg c16] at h
              refine fs_icmp_ne_f (off := 8) (t := 98) (p := 93) (by decide +kernel) (by decide +kernel) rfl c16 ?_
              refine fs_iload (k := 6) (p := 95) (by decide +kernel) rfl rfl ?_
              refine fs_goto (off := 17) (p := 112) (by decide +kernel) (by decide +kernel) ?_
              have h := Option.some.inj h
              subst h
              exact fs_iret (by decide +kernel) rt_220
          · rw [if_neg c15] at h
            refine fs_if_ne_f (off := 8) (t := 88) (p := 83) (by decide +kernel) (by decide +kernel) rfl c15 ?_
            refine fs_iload (k := 5) (p := 85) (by decide +kernel) rfl rfl ?_
            refine fs_goto (off := 27) (p := 112) (by decide +kernel) (by decide +kernel) ?_
            have h := Option.some.inj h
            subst h
            exact fs_iret (by decide +kernel) rt_220
def fm_220 (x1 : Int32) (x2 : Int32) (σ : fx_S) : Option (Int32 × fx_S) :=
  (fm_150 σ).bind fun q49 =>
  if (fx_b q49.1) = 0 then (
    some ((-1 : Int32), q49.2)) else (
    if x1 < (-1 : Int32) then (
      some ((-1 : Int32), q49.2)) else (
      (fm_130 (x2).toInt64 (0 : Int64) (3 : Int64) q49.2).bind fun q55 =>
      if ¬ (fx_b q55.1) = 0 then (
        fm_220_31 100000 x1 x2 (0 : Int32) (0 : Int32) q55.2) else (
        some ((-1 : Int32), q55.2))))
theorem fe_220 {d : Nat} (hd : 2 ≤ d) {x1 : Int32} {x2 : Int32} {σ : fx_S} {q : Int32 × fx_S} (h : fm_220 x1 x2 σ = some q) : fx_E none 220 d 0 [some (.ref 215), some (.int x1), some (.int x2), none, none, none, none, none] [] σ (some (.int q.1)) q.2 := by
  unfold fm_220 at h
  refine fs_aload_n (k := 0) (p := 1) (by decide +kernel) rfl rfl ?_
  obtain ⟨q49, w48, h⟩ := fx_bd h
  refine fs_callV (idx := 303) (mj := 150) (ci := 10) (na := 0) (mx := 1) (p := 4) (args := [.ref 215]) (rest := []) (al2 := [some (.ref 215)]) (by decide +kernel) rfl (by decide +kernel) fo_215 rfl rfl rfl rfl rfl rfl rfl (by omega) (fun d' hd' => fe_150 (by omega) w48) rfl ?_
  by_cases c50 : (fx_b q49.1) = 0
  · rw [if_pos c50] at h
    refine fs_if_eq_t (off := 20) (t := 24) (by decide +kernel) (by decide +kernel) c50 ?_
    refine fs_iconst (n := -1) (p := 25) (by decide +kernel) rfl kc_m1 ?_
    have h := Option.some.inj h
    subst h
    exact fs_iret (by decide +kernel) rt_220
  · rw [if_neg c50] at h
    refine fs_if_eq_f (off := 20) (t := 24) (p := 7) (by decide +kernel) (by decide +kernel) rfl c50 ?_
    refine fs_iload_n (k := 1) (p := 8) (by decide +kernel) rfl rfl ?_
    refine fs_iconst (n := -1) (p := 9) (by decide +kernel) rfl kc_m1 ?_
    by_cases c52 : x1 < (-1 : Int32)
    · rw [if_pos c52] at h
      refine fs_icmp_lt_t (off := 15) (t := 24) (by decide +kernel) (by decide +kernel) c52 ?_
      refine fs_iconst (n := -1) (p := 25) (by decide +kernel) rfl kc_m1 ?_
      have h := Option.some.inj h
      subst h
      exact fs_iret (by decide +kernel) rt_220
    · rw [if_neg c52] at h
      refine fs_icmp_lt_f (off := 15) (t := 24) (p := 12) (by decide +kernel) (by decide +kernel) rfl c52 ?_
      refine fs_iload_n (k := 2) (p := 13) (by decide +kernel) rfl rfl ?_
      refine fs_i2l (p := 14) (by decide +kernel) rfl ?_
      refine fs_lconst (n := 0) (p := 15) (by decide +kernel) rfl kl_0 ?_
      refine fs_ldc2 (idx := 327) (p := 18) (x := 3) (by decide +kernel) rfl (by decide +kernel) ?_
      obtain ⟨q55, w54, h⟩ := fx_bd h
      refine fs_callS (idx := 128) (mj := 130) (na := 3) (mx := 6) (p := 21) (args := [.long (x2).toInt64, .long (0 : Int64), .long (3 : Int64)]) (rest := []) (al2 := [some (.long (x2).toInt64), none, some (.long (0 : Int64)), none, some (.long (3 : Int64)), none]) (by decide +kernel) rfl (by decide +kernel) rfl rfl rfl rfl rfl rfl rfl (by omega) (fun d' hd' => fe_130 (by omega) w54) rfl ?_
      by_cases c56 : ¬ (fx_b q55.1) = 0
      · rw [if_pos c56] at h
        refine fs_if_ne_t (off := 5) (t := 26) (by decide +kernel) (by decide +kernel) c56 ?_
        refine fs_iconst (n := 0) (p := 27) (by decide +kernel) rfl kc_0 ?_
        refine fs_istore_n (k := 3) (p := 28) (M := 8) (al' := [some (.ref 215), some (.int x1), some (.int x2), some (.int (0 : Int32)), none, none, none, none]) (by decide +kernel) rfl mx_220 rfl rfl ?_
        refine fs_iconst (n := 0) (p := 29) (by decide +kernel) rfl kc_0 ?_
        refine fs_istore (k := 4) (p := 31) (M := 8) (al' := [some (.ref 215), some (.int x1), some (.int x2), some (.int (0 : Int32)), some (.int (0 : Int32)), none, none, none]) (by decide +kernel) rfl mx_220 rfl rfl ?_
        exact fe_220_31 hd 100000 _ _ _ _ _ _ _ _ _ h
      · rw [if_neg c56] at h
        refine fs_if_ne_f (off := 5) (t := 26) (p := 24) (by decide +kernel) (by decide +kernel) rfl c56 ?_
        refine fs_iconst (n := -1) (p := 25) (by decide +kernel) rfl kc_m1 ?_
        have h := Option.some.inj h
        subst h
        exact fs_iret (by decide +kernel) rt_220

/-! ZoneSharesModel.newSet(I)I -/
theorem mx_221 : iv_mx 221 = 4 := by decide +kernel
theorem rt_221 : iv_rt 221 = some .int := by decide +kernel
def fm_221_35 (k_4 : Int32 → Int32 → Int32 → fx_S → Option (Int32 × fx_S)) (x1 : Int32) (x3 : Int32) (s0 : Int32) (s1 : Int32) (σ : fx_S) : Option (Int32 × fx_S) :=
  k_4 x1 (s0 ||| s1) (x3 + (1 : Int32)) σ
theorem fe_221_35 {d : Nat} (hd : 1 ≤ d) {k_4 : Int32 → Int32 → Int32 → fx_S → Option (Int32 × fx_S)} (hk_4 : ∀ (x1 : Int32) (x2 : Int32) (x3 : Int32) (σ : fx_S) (q : Int32 × fx_S), k_4 x1 x2 x3 σ = some q → fx_E none 221 d 4 [some (.ref 215), some (.int x1), some (.int x2), some (.int x3)] [] σ (some (.int q.1)) q.2) (x1 : Int32) (x3 : Int32) (s0 : Int32) (s1 : Int32) (o2 : Option Value) (σ : fx_S) (q : Int32 × fx_S) (h : fm_221_35 k_4  x1 x3 s0 s1 σ = some q) : fx_E none 221 d 35 [some (.ref 215), some (.int x1), o2, some (.int x3)] [.int s1, .int s0] σ (some (.int q.1)) q.2 := by
  unfold fm_221_35 at h
  refine fs_ior (p := 36) (by decide +kernel) rfl ?_
  refine fs_istore_n (k := 2) (p := 37) (M := 4) (al' := [some (.ref 215), some (.int x1), some (.int (s0 ||| s1)), some (.int x3)]) (by decide +kernel) rfl mx_221 rfl rfl ?_
  refine fs_iinc (k := 3) (n := 1) (p := 40) (M := 4) (al' := [some (.ref 215), some (.int x1), some (.int (s0 ||| s1)), some (.int (x3 + (1 : Int32)))]) (by decide +kernel) rfl kc_1 mx_221 rfl rfl rfl ?_
  refine fs_goto (off := -36) (p := 4) (by decide +kernel) (by decide +kernel) ?_
  exact hk_4 _ _ _ _ _ h
def fm_221_4 : Nat → Int32 → Int32 → Int32 → fx_S → Option (Int32 × fx_S)
  | 0, _, _, _, _ => none
  | n + 1, x1, x2, x3, σ =>
    (fm_151 σ).bind fun q2 =>
    if q2.1 ≤ x3 then (
      some (x2, q2.2)) else (
      (fm_152 (0 : Int32) x3 q2.2).bind fun q7 =>
      if ¬ q7.1 = x1 then (
        fm_221_35 (fm_221_4 n) x1 x3 x2 (0 : Int32) q7.2) else (
        (fm_152 (1 : Int32) x3 q7.2).bind fun q12 =>
        fm_221_35 (fm_221_4 n) x1 x3 x2 ((1 : Int32) <<< (q12.1 &&& 31)) q12.2))
theorem fe_221_4 {d : Nat} (hd : 1 ≤ d) : ∀ (n : Nat) (x1 : Int32) (x2 : Int32) (x3 : Int32) (σ : fx_S) (q : Int32 × fx_S), fm_221_4 n x1 x2 x3 σ = some q → fx_E none 221 d 4 [some (.ref 215), some (.int x1), some (.int x2), some (.int x3)] [] σ (some (.int q.1)) q.2 := by
  intro n
  induction n with
  | zero =>
    intro x1 x2 x3 σ q  h
    rw [fm_221_4] at h
    exact fx_no h
  | succ n ih =>
    intro x1 x2 x3 σ q  h
    rw [fm_221_4] at h
    refine fs_iload_n (k := 3) (p := 5) (by decide +kernel) rfl rfl ?_
    refine fs_aload_n (k := 0) (p := 6) (by decide +kernel) rfl rfl ?_
    obtain ⟨q2, w1, h⟩ := fx_bd h
    refine fs_callV (idx := 196) (mj := 151) (ci := 10) (na := 0) (mx := 1) (p := 9) (args := [.ref 215]) (rest := [.int x3]) (al2 := [some (.ref 215)]) (by decide +kernel) rfl (by decide +kernel) fo_215 rfl rfl rfl rfl rfl rfl rfl (by omega) (fun d' hd' => fe_151 (by omega) w1) rfl ?_
    by_cases c5 : q2.1 ≤ x3
    · rw [if_pos c5] at h
      refine fs_icmp_ge_t (off := 34) (t := 43) (by decide +kernel) (by decide +kernel) c5 ?_
      refine fs_iload_n (k := 2) (p := 44) (by decide +kernel) rfl rfl ?_
      have h := Option.some.inj h
      subst h
      exact fs_iret (by decide +kernel) rt_221
    · rw [if_neg c5] at h
      refine fs_icmp_ge_f (off := 34) (t := 43) (p := 12) (by decide +kernel) (by decide +kernel) rfl c5 ?_
      refine fs_iload_n (k := 2) (p := 13) (by decide +kernel) rfl rfl ?_
      refine fs_aload_n (k := 0) (p := 14) (by decide +kernel) rfl rfl ?_
      refine fs_iconst (n := 0) (p := 15) (by decide +kernel) rfl kc_0 ?_
      refine fs_iload_n (k := 3) (p := 16) (by decide +kernel) rfl rfl ?_
      obtain ⟨q7, w6, h⟩ := fx_bd h
      refine fs_callV (idx := 199) (mj := 152) (ci := 10) (na := 2) (mx := 3) (p := 19) (args := [.ref 215, .int (0 : Int32), .int x3]) (rest := [.int x2]) (al2 := [some (.ref 215), some (.int (0 : Int32)), some (.int x3)]) (by decide +kernel) rfl (by decide +kernel) fo_215 rfl rfl rfl rfl rfl rfl rfl (by omega) (fun d' hd' => fe_152 (by omega) w6) rfl ?_
      refine fs_iload_n (k := 1) (p := 20) (by decide +kernel) rfl rfl ?_
      by_cases c10 : ¬ q7.1 = x1
      · rw [if_pos c10] at h
        refine fs_icmp_ne_t (off := 14) (t := 34) (by decide +kernel) (by decide +kernel) c10 ?_
        refine fs_iconst (n := 0) (p := 35) (by decide +kernel) rfl kc_0 ?_
        exact fe_221_35 hd ih _ _ _ _ _ _ _ h
      · rw [if_neg c10] at h
        refine fs_icmp_ne_f (off := 14) (t := 34) (p := 23) (by decide +kernel) (by decide +kernel) rfl c10 ?_
        refine fs_iconst (n := 1) (p := 24) (by decide +kernel) rfl kc_1 ?_
        refine fs_aload_n (k := 0) (p := 25) (by decide +kernel) rfl rfl ?_
        refine fs_iconst (n := 1) (p := 26) (by decide +kernel) rfl kc_1 ?_
        refine fs_iload_n (k := 3) (p := 27) (by decide +kernel) rfl rfl ?_
        obtain ⟨q12, w11, h⟩ := fx_bd h
        refine fs_callV (idx := 199) (mj := 152) (ci := 10) (na := 2) (mx := 3) (p := 30) (args := [.ref 215, .int (1 : Int32), .int x3]) (rest := [.int (1 : Int32), .int x2]) (al2 := [some (.ref 215), some (.int (1 : Int32)), some (.int x3)]) (by decide +kernel) rfl (by decide +kernel) fo_215 rfl rfl rfl rfl rfl rfl rfl (by omega) (fun d' hd' => fe_152 (by omega) w11) rfl ?_
        refine fs_ishl (p := 31) (by decide +kernel) rfl ?_
        refine fs_goto (off := 4) (p := 35) (by decide +kernel) (by decide +kernel) ?_
        exact fe_221_35 hd ih _ _ _ _ _ _ _ h
def fm_221 (x1 : Int32) (σ : fx_S) : Option (Int32 × fx_S) :=
  fm_221_4 100000 x1 (0 : Int32) (0 : Int32) σ
theorem fe_221 {d : Nat} (hd : 1 ≤ d) {x1 : Int32} {σ : fx_S} {q : Int32 × fx_S} (h : fm_221 x1 σ = some q) : fx_E none 221 d 0 [some (.ref 215), some (.int x1), none, none] [] σ (some (.int q.1)) q.2 := by
  unfold fm_221 at h
  refine fs_iconst (n := 0) (p := 1) (by decide +kernel) rfl kc_0 ?_
  refine fs_istore_n (k := 2) (p := 2) (M := 4) (al' := [some (.ref 215), some (.int x1), some (.int (0 : Int32)), none]) (by decide +kernel) rfl mx_221 rfl rfl ?_
  refine fs_iconst (n := 0) (p := 3) (by decide +kernel) rfl kc_0 ?_
  refine fs_istore_n (k := 3) (p := 4) (M := 4) (al' := [some (.ref 215), some (.int x1), some (.int (0 : Int32)), some (.int (0 : Int32))]) (by decide +kernel) rfl mx_221 rfl rfl ?_
  exact fe_221_4 hd 100000 _ _ _ _ _ h

/-! ZoneSharesModel.asideAll()I -/
theorem mx_225 : iv_mx 225 = 3 := by decide +kernel
theorem rt_225 : iv_rt 225 = some .int := by decide +kernel
def fm_225_30 (x1 : Int32) (σ : fx_S) : Option (Int32 × fx_S) :=
  some (x1, σ)
theorem fe_225_30 {d : Nat} (hd : 5 ≤ d) (x1 : Int32) (o0 : Option Value) (o2 : Option Value) (σ : fx_S) (q : Int32 × fx_S) (h : fm_225_30  x1 σ = some q) : fx_E none 225 d 30 [o0, some (.int x1), o2] [] σ (some (.int q.1)) q.2 := by
  unfold fm_225_30 at h
  refine fs_iload_n (k := 1) (p := 31) (by decide +kernel) rfl rfl ?_
  have h := Option.some.inj h
  subst h
  exact fs_iret (by decide +kernel) rt_225
def fm_225_4 : Nat → Int32 → Int32 → fx_S → Option (Int32 × fx_S)
  | 0, _, _, _ => none
  | n + 1, x1, x2, σ =>
    if (3 : Int32) ≤ x2 then (
      fm_225_30 x1 σ) else (
      (fm_150 σ).bind fun q4 =>
      if (fx_b q4.1) = 0 then (
        fm_225_30 x1 q4.2) else (
        (fm_176 x2 q4.2).bind fun q7 =>
        fm_225_4 n (x1 + q7.1) (x2 + (1 : Int32)) q7.2))
theorem fe_225_4 {d : Nat} (hd : 5 ≤ d) : ∀ (n : Nat) (x1 : Int32) (x2 : Int32) (σ : fx_S) (q : Int32 × fx_S), fm_225_4 n x1 x2 σ = some q → fx_E none 225 d 4 [some (.ref 215), some (.int x1), some (.int x2)] [] σ (some (.int q.1)) q.2 := by
  intro n
  induction n with
  | zero =>
    intro x1 x2 σ q  h
    rw [fm_225_4] at h
    exact fx_no h
  | succ n ih =>
    intro x1 x2 σ q  h
    rw [fm_225_4] at h
    refine fs_iload_n (k := 2) (p := 5) (by decide +kernel) rfl rfl ?_
    refine fs_iconst (n := 3) (p := 6) (by decide +kernel) rfl kc_3 ?_
    by_cases c2 : (3 : Int32) ≤ x2
    · rw [if_pos c2] at h
      refine fs_icmp_ge_t (off := 24) (t := 30) (by decide +kernel) (by decide +kernel) c2 ?_
      exact fe_225_30 hd _ _ _ _ _ h
    · rw [if_neg c2] at h
      refine fs_icmp_ge_f (off := 24) (t := 30) (p := 9) (by decide +kernel) (by decide +kernel) rfl c2 ?_
      refine fs_aload_n (k := 0) (p := 10) (by decide +kernel) rfl rfl ?_
      obtain ⟨q4, w3, h⟩ := fx_bd h
      refine fs_callV (idx := 303) (mj := 150) (ci := 10) (na := 0) (mx := 1) (p := 13) (args := [.ref 215]) (rest := []) (al2 := [some (.ref 215)]) (by decide +kernel) rfl (by decide +kernel) fo_215 rfl rfl rfl rfl rfl rfl rfl (by omega) (fun d' hd' => fe_150 (by omega) w3) rfl ?_
      by_cases c5 : (fx_b q4.1) = 0
      · rw [if_pos c5] at h
        refine fs_if_eq_t (off := 17) (t := 30) (by decide +kernel) (by decide +kernel) c5 ?_
        exact fe_225_30 hd _ _ _ _ _ h
      · rw [if_neg c5] at h
        refine fs_if_eq_f (off := 17) (t := 30) (p := 16) (by decide +kernel) (by decide +kernel) rfl c5 ?_
        refine fs_iload_n (k := 1) (p := 17) (by decide +kernel) rfl rfl ?_
        refine fs_aload_n (k := 0) (p := 18) (by decide +kernel) rfl rfl ?_
        refine fs_iload_n (k := 2) (p := 19) (by decide +kernel) rfl rfl ?_
        obtain ⟨q7, w6, h⟩ := fx_bd h
        refine fs_callV (idx := 284) (mj := 176) (ci := 10) (na := 1) (mx := 2) (p := 22) (args := [.ref 215, .int x2]) (rest := [.int x1]) (al2 := [some (.ref 215), some (.int x2)]) (by decide +kernel) rfl (by decide +kernel) fo_215 rfl rfl rfl rfl rfl rfl rfl (by omega) (fun d' hd' => fe_176 (by omega) w6) rfl ?_
        refine fs_iadd (p := 23) (by decide +kernel) rfl ?_
        refine fs_istore_n (k := 1) (p := 24) (M := 3) (al' := [some (.ref 215), some (.int (x1 + q7.1)), some (.int x2)]) (by decide +kernel) rfl mx_225 rfl rfl ?_
        refine fs_iinc (k := 2) (n := 1) (p := 27) (M := 3) (al' := [some (.ref 215), some (.int (x1 + q7.1)), some (.int (x2 + (1 : Int32)))]) (by decide +kernel) rfl kc_1 mx_225 rfl rfl rfl ?_
        refine fs_goto (off := -23) (p := 4) (by decide +kernel) (by decide +kernel) ?_
        exact ih _ _ _ _ h
def fm_225 (σ : fx_S) : Option (Int32 × fx_S) :=
  fm_225_4 100000 (0 : Int32) (0 : Int32) σ
theorem fe_225 {d : Nat} (hd : 5 ≤ d) {σ : fx_S} {q : Int32 × fx_S} (h : fm_225 σ = some q) : fx_E none 225 d 0 [some (.ref 215), none, none] [] σ (some (.int q.1)) q.2 := by
  unfold fm_225 at h
  refine fs_iconst (n := 0) (p := 1) (by decide +kernel) rfl kc_0 ?_
  refine fs_istore_n (k := 1) (p := 2) (M := 3) (al' := [some (.ref 215), some (.int (0 : Int32)), none]) (by decide +kernel) rfl mx_225 rfl rfl ?_
  refine fs_iconst (n := 0) (p := 3) (by decide +kernel) rfl kc_0 ?_
  refine fs_istore_n (k := 2) (p := 4) (M := 3) (al' := [some (.ref 215), some (.int (0 : Int32)), some (.int (0 : Int32))]) (by decide +kernel) rfl mx_225 rfl rfl ?_
  exact fe_225_4 hd 100000 _ _ _ _ h

/-! ZoneSharesModel.weight(II)I -/
theorem mx_227 : iv_mx 227 = 3 := by decide +kernel
theorem rt_227 : iv_rt 227 = some .int := by decide +kernel
def fm_227 (x1 : Int32) (x2 : Int32) (σ : fx_S) : Option (Int32 × fx_S) :=
  (fm_148 x1 σ).bind fun q12 =>
  if (fx_b q12.1) = 0 then (
    some ((-1 : Int32), q12.2)) else (
    (fm_130 (x2).toInt64 (0 : Int64) (3 : Int64) q12.2).bind fun q16 =>
    if (fx_b q16.1) = 0 then (
      some ((-1 : Int32), q16.2)) else (
      (fx_ld q16.2 216 (((32 : Int32) + ((4 : Int32) * x1)) + x2)).bind fun v18 =>
      some (v18, q16.2)))
theorem fe_227 {d : Nat} (hd : 2 ≤ d) {x1 : Int32} {x2 : Int32} {σ : fx_S} {q : Int32 × fx_S} (h : fm_227 x1 x2 σ = some q) : fx_E none 227 d 0 [some (.ref 215), some (.int x1), some (.int x2)] [] σ (some (.int q.1)) q.2 := by
  unfold fm_227 at h
  refine fs_iload_n (k := 1) (p := 1) (by decide +kernel) rfl rfl ?_
  obtain ⟨q12, w11, h⟩ := fx_bd h
  refine fs_callS (idx := 190) (mj := 148) (na := 1) (mx := 1) (p := 4) (args := [.int x1]) (rest := []) (al2 := [some (.int x1)]) (by decide +kernel) rfl (by decide +kernel) rfl rfl rfl rfl rfl rfl rfl (by omega) (fun d' hd' => fe_148 (by omega) w11) rfl ?_
  by_cases c13 : (fx_b q12.1) = 0
  · rw [if_pos c13] at h
    refine fs_if_eq_t (off := 31) (t := 35) (by decide +kernel) (by decide +kernel) c13 ?_
    refine fs_iconst (n := -1) (p := 36) (by decide +kernel) rfl kc_m1 ?_
    have h := Option.some.inj h
    subst h
    exact fs_iret (by decide +kernel) rt_227
  · rw [if_neg c13] at h
    refine fs_if_eq_f (off := 31) (t := 35) (p := 7) (by decide +kernel) (by decide +kernel) rfl c13 ?_
    refine fs_iload_n (k := 2) (p := 8) (by decide +kernel) rfl rfl ?_
    refine fs_i2l (p := 9) (by decide +kernel) rfl ?_
    refine fs_lconst (n := 0) (p := 10) (by decide +kernel) rfl kl_0 ?_
    refine fs_ldc2 (idx := 327) (p := 13) (x := 3) (by decide +kernel) rfl (by decide +kernel) ?_
    obtain ⟨q16, w15, h⟩ := fx_bd h
    refine fs_callS (idx := 128) (mj := 130) (na := 3) (mx := 6) (p := 16) (args := [.long (x2).toInt64, .long (0 : Int64), .long (3 : Int64)]) (rest := []) (al2 := [some (.long (x2).toInt64), none, some (.long (0 : Int64)), none, some (.long (3 : Int64)), none]) (by decide +kernel) rfl (by decide +kernel) rfl rfl rfl rfl rfl rfl rfl (by omega) (fun d' hd' => fe_130 (by omega) w15) rfl ?_
    by_cases c17 : (fx_b q16.1) = 0
    · rw [if_pos c17] at h
      refine fs_if_eq_t (off := 19) (t := 35) (by decide +kernel) (by decide +kernel) c17 ?_
      refine fs_iconst (n := -1) (p := 36) (by decide +kernel) rfl kc_m1 ?_
      have h := Option.some.inj h
      subst h
      exact fs_iret (by decide +kernel) rt_227
    · rw [if_neg c17] at h
      refine fs_if_eq_f (off := 19) (t := 35) (p := 19) (by decide +kernel) (by decide +kernel) rfl c17 ?_
      refine fs_aload_n (k := 0) (p := 20) (by decide +kernel) rfl rfl ?_
      refine fs_gfr (idx := 9) (ci := 10) (j := 0) (p := 23) (by decide +kernel) rfl (by decide +kernel) fo_215 (fr_a215_0) ?_
      refine fs_bipush (n := 32) (p := 25) (by decide +kernel) rfl kb_32 ?_
      refine fs_iconst (n := 4) (p := 26) (by decide +kernel) rfl kc_4 ?_
      refine fs_iload_n (k := 1) (p := 27) (by decide +kernel) rfl rfl ?_
      refine fs_imul (p := 28) (by decide +kernel) rfl ?_
      refine fs_iadd (p := 29) (by decide +kernel) rfl ?_
      refine fs_iload_n (k := 2) (p := 30) (by decide +kernel) rfl rfl ?_
      refine fs_iadd (p := 31) (by decide +kernel) rfl ?_
      obtain ⟨v18, w19, h⟩ := fx_bd h
      refine fs_iaload (p := 32) (by decide +kernel) rfl w19 ?_
      refine fs_goto (off := 4) (p := 36) (by decide +kernel) (by decide +kernel) ?_
      have h := Option.some.inj h
      subst h
      exact fs_iret (by decide +kernel) rt_227

/-! ZoneSharesModel.districtOf(I)I -/
theorem mx_228 : iv_mx 228 = 2 := by decide +kernel
theorem rt_228 : iv_rt 228 = some .int := by decide +kernel
def fm_228 (x1 : Int32) (σ : fx_S) : Option (Int32 × fx_S) :=
  (fm_130 (x1).toInt64 (0 : Int64) (7 : Int64) σ).bind fun q10 =>
  if (fx_b q10.1) = 0 then (
    some ((-1 : Int32), q10.2)) else (
    (fx_ld q10.2 216 ((44 : Int32) + x1)).bind fun v12 =>
    some (v12, q10.2))
theorem fe_228 {d : Nat} (hd : 1 ≤ d) {x1 : Int32} {σ : fx_S} {q : Int32 × fx_S} (h : fm_228 x1 σ = some q) : fx_E none 228 d 0 [some (.ref 215), some (.int x1)] [] σ (some (.int q.1)) q.2 := by
  unfold fm_228 at h
  refine fs_iload_n (k := 1) (p := 1) (by decide +kernel) rfl rfl ?_
  refine fs_i2l (p := 2) (by decide +kernel) rfl ?_
  refine fs_lconst (n := 0) (p := 3) (by decide +kernel) rfl kl_0 ?_
  refine fs_ldc2 (idx := 308) (p := 6) (x := 7) (by decide +kernel) rfl (by decide +kernel) ?_
  obtain ⟨q10, w9, h⟩ := fx_bd h
  refine fs_callS (idx := 128) (mj := 130) (na := 3) (mx := 6) (p := 9) (args := [.long (x1).toInt64, .long (0 : Int64), .long (7 : Int64)]) (rest := []) (al2 := [some (.long (x1).toInt64), none, some (.long (0 : Int64)), none, some (.long (7 : Int64)), none]) (by decide +kernel) rfl (by decide +kernel) rfl rfl rfl rfl rfl rfl rfl (by omega) (fun d' hd' => fe_130 (by omega) w9) rfl ?_
  by_cases c11 : (fx_b q10.1) = 0
  · rw [if_pos c11] at h
    refine fs_if_eq_t (off := 15) (t := 24) (by decide +kernel) (by decide +kernel) c11 ?_
    refine fs_iconst (n := -1) (p := 25) (by decide +kernel) rfl kc_m1 ?_
    have h := Option.some.inj h
    subst h
    exact fs_iret (by decide +kernel) rt_228
  · rw [if_neg c11] at h
    refine fs_if_eq_f (off := 15) (t := 24) (p := 12) (by decide +kernel) (by decide +kernel) rfl c11 ?_
    refine fs_aload_n (k := 0) (p := 13) (by decide +kernel) rfl rfl ?_
    refine fs_gfr (idx := 9) (ci := 10) (j := 0) (p := 16) (by decide +kernel) rfl (by decide +kernel) fo_215 (fr_a215_0) ?_
    refine fs_bipush (n := 44) (p := 18) (by decide +kernel) rfl kb_44 ?_
    refine fs_iload_n (k := 1) (p := 19) (by decide +kernel) rfl rfl ?_
    refine fs_iadd (p := 20) (by decide +kernel) rfl ?_
    obtain ⟨v12, w13, h⟩ := fx_bd h
    refine fs_iaload (p := 21) (by decide +kernel) rfl w13 ?_
    refine fs_goto (off := 4) (p := 25) (by decide +kernel) (by decide +kernel) ?_
    have h := Option.some.inj h
    subst h
    exact fs_iret (by decide +kernel) rt_228

/-! java/lang/Integer.numberOfTrailingZeros(I)I -/
theorem mx_229 : iv_mx 229 = 2 := by decide +kernel
theorem rt_229 : iv_rt 229 = some .int := by decide +kernel
def fm_229_74 (x0 : Int32) (x1 : Int32) (σ : fx_S) : Option (Int32 × fx_S) :=
  some ((x1 + ((x0).toUInt32 >>> (((1 : Int32)).toUInt32 &&& Int32.toUInt32 31)).toInt32), σ)
theorem fe_229_74 {d : Nat} (hd : 0 ≤ d) (x0 : Int32) (x1 : Int32) (σ : fx_S) (q : Int32 × fx_S) (h : fm_229_74  x0 x1 σ = some q) : fx_E none 229 d 74 [some (.int x0), some (.int x1)] [] σ (some (.int q.1)) q.2 := by
  unfold fm_229_74 at h
  refine fs_iload_n (k := 1) (p := 75) (by decide +kernel) rfl rfl ?_
  refine fs_iload_n (k := 0) (p := 76) (by decide +kernel) rfl rfl ?_
  refine fs_iconst (n := 1) (p := 77) (by decide +kernel) rfl kc_1 ?_
  refine fs_iushr (p := 78) (by decide +kernel) rfl ?_
  refine fs_iadd (p := 79) (by decide +kernel) rfl ?_
  have h := Option.some.inj h
  subst h
  exact fs_iret (by decide +kernel) rt_229
def fm_229_62 (x0 : Int32) (x1 : Int32) (σ : fx_S) : Option (Int32 × fx_S) :=
  if x0 ≤ (4 : Int32) then (
    fm_229_74 x0 x1 σ) else (
    fm_229_74 (((x0).toUInt32 >>> (((2 : Int32)).toUInt32 &&& Int32.toUInt32 31)).toInt32) (x1 + (2 : Int32)) σ)
theorem fe_229_62 {d : Nat} (hd : 0 ≤ d) (x0 : Int32) (x1 : Int32) (σ : fx_S) (q : Int32 × fx_S) (h : fm_229_62  x0 x1 σ = some q) : fx_E none 229 d 62 [some (.int x0), some (.int x1)] [] σ (some (.int q.1)) q.2 := by
  unfold fm_229_62 at h
  refine fs_iload_n (k := 0) (p := 63) (by decide +kernel) rfl rfl ?_
  refine fs_iconst (n := 4) (p := 64) (by decide +kernel) rfl kc_4 ?_
  by_cases c2 : x0 ≤ (4 : Int32)
  · rw [if_pos c2] at h
    refine fs_icmp_le_t (off := 10) (t := 74) (by decide +kernel) (by decide +kernel) c2 ?_
    exact fe_229_74 hd _ _ _ _ h
  · rw [if_neg c2] at h
    refine fs_icmp_le_f (off := 10) (t := 74) (p := 67) (by decide +kernel) (by decide +kernel) rfl c2 ?_
    refine fs_iinc (k := 1) (n := 2) (p := 70) (M := 2) (al' := [some (.int x0), some (.int (x1 + (2 : Int32)))]) (by decide +kernel) rfl kc_2 mx_229 rfl rfl rfl ?_
    refine fs_iload_n (k := 0) (p := 71) (by decide +kernel) rfl rfl ?_
    refine fs_iconst (n := 2) (p := 72) (by decide +kernel) rfl kc_2 ?_
    refine fs_iushr (p := 73) (by decide +kernel) rfl ?_
    refine fs_istore_n (k := 0) (p := 74) (M := 2) (al' := [some (.int ((x0).toUInt32 >>> (((2 : Int32)).toUInt32 &&& Int32.toUInt32 31)).toInt32), some (.int (x1 + (2 : Int32)))]) (by decide +kernel) rfl mx_229 rfl rfl ?_
    exact fe_229_74 hd _ _ _ _ h
def fm_229_49 (x0 : Int32) (x1 : Int32) (σ : fx_S) : Option (Int32 × fx_S) :=
  if x0 ≤ (16 : Int32) then (
    fm_229_62 x0 x1 σ) else (
    fm_229_62 (((x0).toUInt32 >>> (((4 : Int32)).toUInt32 &&& Int32.toUInt32 31)).toInt32) (x1 + (4 : Int32)) σ)
theorem fe_229_49 {d : Nat} (hd : 0 ≤ d) (x0 : Int32) (x1 : Int32) (σ : fx_S) (q : Int32 × fx_S) (h : fm_229_49  x0 x1 σ = some q) : fx_E none 229 d 49 [some (.int x0), some (.int x1)] [] σ (some (.int q.1)) q.2 := by
  unfold fm_229_49 at h
  refine fs_iload_n (k := 0) (p := 50) (by decide +kernel) rfl rfl ?_
  refine fs_bipush (n := 16) (p := 52) (by decide +kernel) rfl kb_16 ?_
  by_cases c2 : x0 ≤ (16 : Int32)
  · rw [if_pos c2] at h
    refine fs_icmp_le_t (off := 10) (t := 62) (by decide +kernel) (by decide +kernel) c2 ?_
    exact fe_229_62 hd _ _ _ _ h
  · rw [if_neg c2] at h
    refine fs_icmp_le_f (off := 10) (t := 62) (p := 55) (by decide +kernel) (by decide +kernel) rfl c2 ?_
    refine fs_iinc (k := 1) (n := 4) (p := 58) (M := 2) (al' := [some (.int x0), some (.int (x1 + (4 : Int32)))]) (by decide +kernel) rfl kc_4 mx_229 rfl rfl rfl ?_
    refine fs_iload_n (k := 0) (p := 59) (by decide +kernel) rfl rfl ?_
    refine fs_iconst (n := 4) (p := 60) (by decide +kernel) rfl kc_4 ?_
    refine fs_iushr (p := 61) (by decide +kernel) rfl ?_
    refine fs_istore_n (k := 0) (p := 62) (M := 2) (al' := [some (.int ((x0).toUInt32 >>> (((4 : Int32)).toUInt32 &&& Int32.toUInt32 31)).toInt32), some (.int (x1 + (4 : Int32)))]) (by decide +kernel) rfl mx_229 rfl rfl ?_
    exact fe_229_62 hd _ _ _ _ h
def fm_229_34 (x0 : Int32) (x1 : Int32) (σ : fx_S) : Option (Int32 × fx_S) :=
  if x0 ≤ (256 : Int32) then (
    fm_229_49 x0 x1 σ) else (
    fm_229_49 (((x0).toUInt32 >>> (((8 : Int32)).toUInt32 &&& Int32.toUInt32 31)).toInt32) (x1 + (8 : Int32)) σ)
theorem fe_229_34 {d : Nat} (hd : 0 ≤ d) (x0 : Int32) (x1 : Int32) (σ : fx_S) (q : Int32 × fx_S) (h : fm_229_34  x0 x1 σ = some q) : fx_E none 229 d 34 [some (.int x0), some (.int x1)] [] σ (some (.int q.1)) q.2 := by
  unfold fm_229_34 at h
  refine fs_iload_n (k := 0) (p := 35) (by decide +kernel) rfl rfl ?_
  refine fs_sipush (n := 256) (p := 38) (by decide +kernel) rfl ks_256 ?_
  by_cases c2 : x0 ≤ (256 : Int32)
  · rw [if_pos c2] at h
    refine fs_icmp_le_t (off := 11) (t := 49) (by decide +kernel) (by decide +kernel) c2 ?_
    exact fe_229_49 hd _ _ _ _ h
  · rw [if_neg c2] at h
    refine fs_icmp_le_f (off := 11) (t := 49) (p := 41) (by decide +kernel) (by decide +kernel) rfl c2 ?_
    refine fs_iinc (k := 1) (n := 8) (p := 44) (M := 2) (al' := [some (.int x0), some (.int (x1 + (8 : Int32)))]) (by decide +kernel) rfl kc_8 mx_229 rfl rfl rfl ?_
    refine fs_iload_n (k := 0) (p := 45) (by decide +kernel) rfl rfl ?_
    refine fs_bipush (n := 8) (p := 47) (by decide +kernel) rfl kb_8 ?_
    refine fs_iushr (p := 48) (by decide +kernel) rfl ?_
    refine fs_istore_n (k := 0) (p := 49) (M := 2) (al' := [some (.int ((x0).toUInt32 >>> (((8 : Int32)).toUInt32 &&& Int32.toUInt32 31)).toInt32), some (.int (x1 + (8 : Int32)))]) (by decide +kernel) rfl mx_229 rfl rfl ?_
    exact fe_229_49 hd _ _ _ _ h
def fm_229 (x0 : Int32) (σ : fx_S) : Option (Int32 × fx_S) :=
  if 0 < ((x0 ^^^ (-1 : Int32)) &&& (x0 - (1 : Int32))) then (
    if ((x0 ^^^ (-1 : Int32)) &&& (x0 - (1 : Int32))) ≤ (65536 : Int32) then (
      fm_229_34 ((x0 ^^^ (-1 : Int32)) &&& (x0 - (1 : Int32))) (1 : Int32) σ) else (
      fm_229_34 (((((x0 ^^^ (-1 : Int32)) &&& (x0 - (1 : Int32)))).toUInt32 >>> (((16 : Int32)).toUInt32 &&& Int32.toUInt32 31)).toInt32) ((1 : Int32) + (16 : Int32)) σ)) else (
    some ((((x0 ^^^ (-1 : Int32)) &&& (x0 - (1 : Int32))) &&& (32 : Int32)), σ))
theorem fe_229 {d : Nat} (hd : 0 ≤ d) {x0 : Int32} {σ : fx_S} {q : Int32 × fx_S} (h : fm_229 x0 σ = some q) : fx_E none 229 d 0 [some (.int x0), none] [] σ (some (.int q.1)) q.2 := by
  unfold fm_229 at h
  refine fs_iload_n (k := 0) (p := 1) (by decide +kernel) rfl rfl ?_
  refine fs_iconst (n := -1) (p := 2) (by decide +kernel) rfl kc_m1 ?_
  refine fs_ixor (p := 3) (by decide +kernel) rfl ?_
  refine fs_iload_n (k := 0) (p := 4) (by decide +kernel) rfl rfl ?_
  refine fs_iconst (n := 1) (p := 5) (by decide +kernel) rfl kc_1 ?_
  refine fs_isub (p := 6) (by decide +kernel) rfl ?_
  refine fs_iand (p := 7) (by decide +kernel) rfl ?_
  refine fs_istore_n (k := 0) (p := 8) (M := 2) (al' := [some (.int ((x0 ^^^ (-1 : Int32)) &&& (x0 - (1 : Int32)))), none]) (by decide +kernel) rfl mx_229 rfl rfl ?_
  refine fs_iload_n (k := 0) (p := 9) (by decide +kernel) rfl rfl ?_
  by_cases c11 : 0 < ((x0 ^^^ (-1 : Int32)) &&& (x0 - (1 : Int32)))
  · rw [if_pos c11] at h
    refine fs_if_gt_t (off := 8) (t := 17) (by decide +kernel) (by decide +kernel) c11 ?_
    refine fs_iconst (n := 1) (p := 18) (by decide +kernel) rfl kc_1 ?_
    refine fs_istore_n (k := 1) (p := 19) (M := 2) (al' := [some (.int ((x0 ^^^ (-1 : Int32)) &&& (x0 - (1 : Int32)))), some (.int (1 : Int32))]) (by decide +kernel) rfl mx_229 rfl rfl ?_
    refine fs_iload_n (k := 0) (p := 20) (by decide +kernel) rfl rfl ?_
    refine fs_ldcw (idx := 264) (p := 23) (x := 65536) (by decide +kernel) rfl (by decide +kernel) ?_
    by_cases c12 : ((x0 ^^^ (-1 : Int32)) &&& (x0 - (1 : Int32))) ≤ (65536 : Int32)
    · rw [if_pos c12] at h
      refine fs_icmp_le_t (off := 11) (t := 34) (by decide +kernel) (by decide +kernel) c12 ?_
      exact fe_229_34 hd _ _ _ _ h
    · rw [if_neg c12] at h
      refine fs_icmp_le_f (off := 11) (t := 34) (p := 26) (by decide +kernel) (by decide +kernel) rfl c12 ?_
      refine fs_iinc (k := 1) (n := 16) (p := 29) (M := 2) (al' := [some (.int ((x0 ^^^ (-1 : Int32)) &&& (x0 - (1 : Int32)))), some (.int ((1 : Int32) + (16 : Int32)))]) (by decide +kernel) rfl kc_16 mx_229 rfl rfl rfl ?_
      refine fs_iload_n (k := 0) (p := 30) (by decide +kernel) rfl rfl ?_
      refine fs_bipush (n := 16) (p := 32) (by decide +kernel) rfl kb_16 ?_
      refine fs_iushr (p := 33) (by decide +kernel) rfl ?_
      refine fs_istore_n (k := 0) (p := 34) (M := 2) (al' := [some (.int ((((x0 ^^^ (-1 : Int32)) &&& (x0 - (1 : Int32)))).toUInt32 >>> (((16 : Int32)).toUInt32 &&& Int32.toUInt32 31)).toInt32), some (.int ((1 : Int32) + (16 : Int32)))]) (by decide +kernel) rfl mx_229 rfl rfl ?_
      exact fe_229_34 hd _ _ _ _ h
  · rw [if_neg c11] at h
    refine fs_if_gt_f (off := 8) (t := 17) (p := 12) (by decide +kernel) (by decide +kernel) rfl c11 ?_
    refine fs_iload_n (k := 0) (p := 13) (by decide +kernel) rfl rfl ?_
    refine fs_bipush (n := 32) (p := 15) (by decide +kernel) rfl kb_32 ?_
    refine fs_iand (p := 16) (by decide +kernel) rfl ?_
    have h := Option.some.inj h
    subst h
    exact fs_iret (by decide +kernel) rt_229

/-! java/lang/Integer.bitCount(I)I -/
theorem mx_230 : iv_mx 230 = 1 := by decide +kernel
theorem rt_230 : iv_rt 230 = some .int := by decide +kernel
def fm_230 (x0 : Int32) (σ : fx_S) : Option (Int32 × fx_S) :=
  some (((((((((x0 - (((x0).toUInt32 >>> (((1 : Int32)).toUInt32 &&& Int32.toUInt32 31)).toInt32 &&& (1431655765 : Int32))) &&& (858993459 : Int32)) + ((((x0 - (((x0).toUInt32 >>> (((1 : Int32)).toUInt32 &&& Int32.toUInt32 31)).toInt32 &&& (1431655765 : Int32)))).toUInt32 >>> (((2 : Int32)).toUInt32 &&& Int32.toUInt32 31)).toInt32 &&& (858993459 : Int32))) + (((((x0 - (((x0).toUInt32 >>> (((1 : Int32)).toUInt32 &&& Int32.toUInt32 31)).toInt32 &&& (1431655765 : Int32))) &&& (858993459 : Int32)) + ((((x0 - (((x0).toUInt32 >>> (((1 : Int32)).toUInt32 &&& Int32.toUInt32 31)).toInt32 &&& (1431655765 : Int32)))).toUInt32 >>> (((2 : Int32)).toUInt32 &&& Int32.toUInt32 31)).toInt32 &&& (858993459 : Int32)))).toUInt32 >>> (((4 : Int32)).toUInt32 &&& Int32.toUInt32 31)).toInt32) &&& (252645135 : Int32)) + (((((((x0 - (((x0).toUInt32 >>> (((1 : Int32)).toUInt32 &&& Int32.toUInt32 31)).toInt32 &&& (1431655765 : Int32))) &&& (858993459 : Int32)) + ((((x0 - (((x0).toUInt32 >>> (((1 : Int32)).toUInt32 &&& Int32.toUInt32 31)).toInt32 &&& (1431655765 : Int32)))).toUInt32 >>> (((2 : Int32)).toUInt32 &&& Int32.toUInt32 31)).toInt32 &&& (858993459 : Int32))) + (((((x0 - (((x0).toUInt32 >>> (((1 : Int32)).toUInt32 &&& Int32.toUInt32 31)).toInt32 &&& (1431655765 : Int32))) &&& (858993459 : Int32)) + ((((x0 - (((x0).toUInt32 >>> (((1 : Int32)).toUInt32 &&& Int32.toUInt32 31)).toInt32 &&& (1431655765 : Int32)))).toUInt32 >>> (((2 : Int32)).toUInt32 &&& Int32.toUInt32 31)).toInt32 &&& (858993459 : Int32)))).toUInt32 >>> (((4 : Int32)).toUInt32 &&& Int32.toUInt32 31)).toInt32) &&& (252645135 : Int32))).toUInt32 >>> (((8 : Int32)).toUInt32 &&& Int32.toUInt32 31)).toInt32) + ((((((((x0 - (((x0).toUInt32 >>> (((1 : Int32)).toUInt32 &&& Int32.toUInt32 31)).toInt32 &&& (1431655765 : Int32))) &&& (858993459 : Int32)) + ((((x0 - (((x0).toUInt32 >>> (((1 : Int32)).toUInt32 &&& Int32.toUInt32 31)).toInt32 &&& (1431655765 : Int32)))).toUInt32 >>> (((2 : Int32)).toUInt32 &&& Int32.toUInt32 31)).toInt32 &&& (858993459 : Int32))) + (((((x0 - (((x0).toUInt32 >>> (((1 : Int32)).toUInt32 &&& Int32.toUInt32 31)).toInt32 &&& (1431655765 : Int32))) &&& (858993459 : Int32)) + ((((x0 - (((x0).toUInt32 >>> (((1 : Int32)).toUInt32 &&& Int32.toUInt32 31)).toInt32 &&& (1431655765 : Int32)))).toUInt32 >>> (((2 : Int32)).toUInt32 &&& Int32.toUInt32 31)).toInt32 &&& (858993459 : Int32)))).toUInt32 >>> (((4 : Int32)).toUInt32 &&& Int32.toUInt32 31)).toInt32) &&& (252645135 : Int32)) + (((((((x0 - (((x0).toUInt32 >>> (((1 : Int32)).toUInt32 &&& Int32.toUInt32 31)).toInt32 &&& (1431655765 : Int32))) &&& (858993459 : Int32)) + ((((x0 - (((x0).toUInt32 >>> (((1 : Int32)).toUInt32 &&& Int32.toUInt32 31)).toInt32 &&& (1431655765 : Int32)))).toUInt32 >>> (((2 : Int32)).toUInt32 &&& Int32.toUInt32 31)).toInt32 &&& (858993459 : Int32))) + (((((x0 - (((x0).toUInt32 >>> (((1 : Int32)).toUInt32 &&& Int32.toUInt32 31)).toInt32 &&& (1431655765 : Int32))) &&& (858993459 : Int32)) + ((((x0 - (((x0).toUInt32 >>> (((1 : Int32)).toUInt32 &&& Int32.toUInt32 31)).toInt32 &&& (1431655765 : Int32)))).toUInt32 >>> (((2 : Int32)).toUInt32 &&& Int32.toUInt32 31)).toInt32 &&& (858993459 : Int32)))).toUInt32 >>> (((4 : Int32)).toUInt32 &&& Int32.toUInt32 31)).toInt32) &&& (252645135 : Int32))).toUInt32 >>> (((8 : Int32)).toUInt32 &&& Int32.toUInt32 31)).toInt32)).toUInt32 >>> (((16 : Int32)).toUInt32 &&& Int32.toUInt32 31)).toInt32) &&& (63 : Int32)), σ)
theorem fe_230 {d : Nat} (hd : 0 ≤ d) {x0 : Int32} {σ : fx_S} {q : Int32 × fx_S} (h : fm_230 x0 σ = some q) : fx_E none 230 d 0 [some (.int x0)] [] σ (some (.int q.1)) q.2 := by
  unfold fm_230 at h
  refine fs_iload_n (k := 0) (p := 1) (by decide +kernel) rfl rfl ?_
  refine fs_iload_n (k := 0) (p := 2) (by decide +kernel) rfl rfl ?_
  refine fs_iconst (n := 1) (p := 3) (by decide +kernel) rfl kc_1 ?_
  refine fs_iushr (p := 4) (by decide +kernel) rfl ?_
  refine fs_ldcw (idx := 265) (p := 7) (x := 1431655765) (by decide +kernel) rfl (by decide +kernel) ?_
  refine fs_iand (p := 8) (by decide +kernel) rfl ?_
  refine fs_isub (p := 9) (by decide +kernel) rfl ?_
  refine fs_istore_n (k := 0) (p := 10) (M := 1) (al' := [some (.int (x0 - (((x0).toUInt32 >>> (((1 : Int32)).toUInt32 &&& Int32.toUInt32 31)).toInt32 &&& (1431655765 : Int32))))]) (by decide +kernel) rfl mx_230 rfl rfl ?_
  refine fs_iload_n (k := 0) (p := 11) (by decide +kernel) rfl rfl ?_
  refine fs_ldcw (idx := 266) (p := 14) (x := 858993459) (by decide +kernel) rfl (by decide +kernel) ?_
  refine fs_iand (p := 15) (by decide +kernel) rfl ?_
  refine fs_iload_n (k := 0) (p := 16) (by decide +kernel) rfl rfl ?_
  refine fs_iconst (n := 2) (p := 17) (by decide +kernel) rfl kc_2 ?_
  refine fs_iushr (p := 18) (by decide +kernel) rfl ?_
  refine fs_ldcw (idx := 266) (p := 21) (x := 858993459) (by decide +kernel) rfl (by decide +kernel) ?_
  refine fs_iand (p := 22) (by decide +kernel) rfl ?_
  refine fs_iadd (p := 23) (by decide +kernel) rfl ?_
  refine fs_istore_n (k := 0) (p := 24) (M := 1) (al' := [some (.int (((x0 - (((x0).toUInt32 >>> (((1 : Int32)).toUInt32 &&& Int32.toUInt32 31)).toInt32 &&& (1431655765 : Int32))) &&& (858993459 : Int32)) + ((((x0 - (((x0).toUInt32 >>> (((1 : Int32)).toUInt32 &&& Int32.toUInt32 31)).toInt32 &&& (1431655765 : Int32)))).toUInt32 >>> (((2 : Int32)).toUInt32 &&& Int32.toUInt32 31)).toInt32 &&& (858993459 : Int32))))]) (by decide +kernel) rfl mx_230 rfl rfl ?_
  refine fs_iload_n (k := 0) (p := 25) (by decide +kernel) rfl rfl ?_
  refine fs_iload_n (k := 0) (p := 26) (by decide +kernel) rfl rfl ?_
  refine fs_iconst (n := 4) (p := 27) (by decide +kernel) rfl kc_4 ?_
  refine fs_iushr (p := 28) (by decide +kernel) rfl ?_
  refine fs_iadd (p := 29) (by decide +kernel) rfl ?_
  refine fs_ldcw (idx := 267) (p := 32) (x := 252645135) (by decide +kernel) rfl (by decide +kernel) ?_
  refine fs_iand (p := 33) (by decide +kernel) rfl ?_
  refine fs_istore_n (k := 0) (p := 34) (M := 1) (al' := [some (.int (((((x0 - (((x0).toUInt32 >>> (((1 : Int32)).toUInt32 &&& Int32.toUInt32 31)).toInt32 &&& (1431655765 : Int32))) &&& (858993459 : Int32)) + ((((x0 - (((x0).toUInt32 >>> (((1 : Int32)).toUInt32 &&& Int32.toUInt32 31)).toInt32 &&& (1431655765 : Int32)))).toUInt32 >>> (((2 : Int32)).toUInt32 &&& Int32.toUInt32 31)).toInt32 &&& (858993459 : Int32))) + (((((x0 - (((x0).toUInt32 >>> (((1 : Int32)).toUInt32 &&& Int32.toUInt32 31)).toInt32 &&& (1431655765 : Int32))) &&& (858993459 : Int32)) + ((((x0 - (((x0).toUInt32 >>> (((1 : Int32)).toUInt32 &&& Int32.toUInt32 31)).toInt32 &&& (1431655765 : Int32)))).toUInt32 >>> (((2 : Int32)).toUInt32 &&& Int32.toUInt32 31)).toInt32 &&& (858993459 : Int32)))).toUInt32 >>> (((4 : Int32)).toUInt32 &&& Int32.toUInt32 31)).toInt32) &&& (252645135 : Int32)))]) (by decide +kernel) rfl mx_230 rfl rfl ?_
  refine fs_iload_n (k := 0) (p := 35) (by decide +kernel) rfl rfl ?_
  refine fs_iload_n (k := 0) (p := 36) (by decide +kernel) rfl rfl ?_
  refine fs_bipush (n := 8) (p := 38) (by decide +kernel) rfl kb_8 ?_
  refine fs_iushr (p := 39) (by decide +kernel) rfl ?_
  refine fs_iadd (p := 40) (by decide +kernel) rfl ?_
  refine fs_istore_n (k := 0) (p := 41) (M := 1) (al' := [some (.int ((((((x0 - (((x0).toUInt32 >>> (((1 : Int32)).toUInt32 &&& Int32.toUInt32 31)).toInt32 &&& (1431655765 : Int32))) &&& (858993459 : Int32)) + ((((x0 - (((x0).toUInt32 >>> (((1 : Int32)).toUInt32 &&& Int32.toUInt32 31)).toInt32 &&& (1431655765 : Int32)))).toUInt32 >>> (((2 : Int32)).toUInt32 &&& Int32.toUInt32 31)).toInt32 &&& (858993459 : Int32))) + (((((x0 - (((x0).toUInt32 >>> (((1 : Int32)).toUInt32 &&& Int32.toUInt32 31)).toInt32 &&& (1431655765 : Int32))) &&& (858993459 : Int32)) + ((((x0 - (((x0).toUInt32 >>> (((1 : Int32)).toUInt32 &&& Int32.toUInt32 31)).toInt32 &&& (1431655765 : Int32)))).toUInt32 >>> (((2 : Int32)).toUInt32 &&& Int32.toUInt32 31)).toInt32 &&& (858993459 : Int32)))).toUInt32 >>> (((4 : Int32)).toUInt32 &&& Int32.toUInt32 31)).toInt32) &&& (252645135 : Int32)) + (((((((x0 - (((x0).toUInt32 >>> (((1 : Int32)).toUInt32 &&& Int32.toUInt32 31)).toInt32 &&& (1431655765 : Int32))) &&& (858993459 : Int32)) + ((((x0 - (((x0).toUInt32 >>> (((1 : Int32)).toUInt32 &&& Int32.toUInt32 31)).toInt32 &&& (1431655765 : Int32)))).toUInt32 >>> (((2 : Int32)).toUInt32 &&& Int32.toUInt32 31)).toInt32 &&& (858993459 : Int32))) + (((((x0 - (((x0).toUInt32 >>> (((1 : Int32)).toUInt32 &&& Int32.toUInt32 31)).toInt32 &&& (1431655765 : Int32))) &&& (858993459 : Int32)) + ((((x0 - (((x0).toUInt32 >>> (((1 : Int32)).toUInt32 &&& Int32.toUInt32 31)).toInt32 &&& (1431655765 : Int32)))).toUInt32 >>> (((2 : Int32)).toUInt32 &&& Int32.toUInt32 31)).toInt32 &&& (858993459 : Int32)))).toUInt32 >>> (((4 : Int32)).toUInt32 &&& Int32.toUInt32 31)).toInt32) &&& (252645135 : Int32))).toUInt32 >>> (((8 : Int32)).toUInt32 &&& Int32.toUInt32 31)).toInt32))]) (by decide +kernel) rfl mx_230 rfl rfl ?_
  refine fs_iload_n (k := 0) (p := 42) (by decide +kernel) rfl rfl ?_
  refine fs_iload_n (k := 0) (p := 43) (by decide +kernel) rfl rfl ?_
  refine fs_bipush (n := 16) (p := 45) (by decide +kernel) rfl kb_16 ?_
  refine fs_iushr (p := 46) (by decide +kernel) rfl ?_
  refine fs_iadd (p := 47) (by decide +kernel) rfl ?_
  refine fs_istore_n (k := 0) (p := 48) (M := 1) (al' := [some (.int (((((((x0 - (((x0).toUInt32 >>> (((1 : Int32)).toUInt32 &&& Int32.toUInt32 31)).toInt32 &&& (1431655765 : Int32))) &&& (858993459 : Int32)) + ((((x0 - (((x0).toUInt32 >>> (((1 : Int32)).toUInt32 &&& Int32.toUInt32 31)).toInt32 &&& (1431655765 : Int32)))).toUInt32 >>> (((2 : Int32)).toUInt32 &&& Int32.toUInt32 31)).toInt32 &&& (858993459 : Int32))) + (((((x0 - (((x0).toUInt32 >>> (((1 : Int32)).toUInt32 &&& Int32.toUInt32 31)).toInt32 &&& (1431655765 : Int32))) &&& (858993459 : Int32)) + ((((x0 - (((x0).toUInt32 >>> (((1 : Int32)).toUInt32 &&& Int32.toUInt32 31)).toInt32 &&& (1431655765 : Int32)))).toUInt32 >>> (((2 : Int32)).toUInt32 &&& Int32.toUInt32 31)).toInt32 &&& (858993459 : Int32)))).toUInt32 >>> (((4 : Int32)).toUInt32 &&& Int32.toUInt32 31)).toInt32) &&& (252645135 : Int32)) + (((((((x0 - (((x0).toUInt32 >>> (((1 : Int32)).toUInt32 &&& Int32.toUInt32 31)).toInt32 &&& (1431655765 : Int32))) &&& (858993459 : Int32)) + ((((x0 - (((x0).toUInt32 >>> (((1 : Int32)).toUInt32 &&& Int32.toUInt32 31)).toInt32 &&& (1431655765 : Int32)))).toUInt32 >>> (((2 : Int32)).toUInt32 &&& Int32.toUInt32 31)).toInt32 &&& (858993459 : Int32))) + (((((x0 - (((x0).toUInt32 >>> (((1 : Int32)).toUInt32 &&& Int32.toUInt32 31)).toInt32 &&& (1431655765 : Int32))) &&& (858993459 : Int32)) + ((((x0 - (((x0).toUInt32 >>> (((1 : Int32)).toUInt32 &&& Int32.toUInt32 31)).toInt32 &&& (1431655765 : Int32)))).toUInt32 >>> (((2 : Int32)).toUInt32 &&& Int32.toUInt32 31)).toInt32 &&& (858993459 : Int32)))).toUInt32 >>> (((4 : Int32)).toUInt32 &&& Int32.toUInt32 31)).toInt32) &&& (252645135 : Int32))).toUInt32 >>> (((8 : Int32)).toUInt32 &&& Int32.toUInt32 31)).toInt32) + ((((((((x0 - (((x0).toUInt32 >>> (((1 : Int32)).toUInt32 &&& Int32.toUInt32 31)).toInt32 &&& (1431655765 : Int32))) &&& (858993459 : Int32)) + ((((x0 - (((x0).toUInt32 >>> (((1 : Int32)).toUInt32 &&& Int32.toUInt32 31)).toInt32 &&& (1431655765 : Int32)))).toUInt32 >>> (((2 : Int32)).toUInt32 &&& Int32.toUInt32 31)).toInt32 &&& (858993459 : Int32))) + (((((x0 - (((x0).toUInt32 >>> (((1 : Int32)).toUInt32 &&& Int32.toUInt32 31)).toInt32 &&& (1431655765 : Int32))) &&& (858993459 : Int32)) + ((((x0 - (((x0).toUInt32 >>> (((1 : Int32)).toUInt32 &&& Int32.toUInt32 31)).toInt32 &&& (1431655765 : Int32)))).toUInt32 >>> (((2 : Int32)).toUInt32 &&& Int32.toUInt32 31)).toInt32 &&& (858993459 : Int32)))).toUInt32 >>> (((4 : Int32)).toUInt32 &&& Int32.toUInt32 31)).toInt32) &&& (252645135 : Int32)) + (((((((x0 - (((x0).toUInt32 >>> (((1 : Int32)).toUInt32 &&& Int32.toUInt32 31)).toInt32 &&& (1431655765 : Int32))) &&& (858993459 : Int32)) + ((((x0 - (((x0).toUInt32 >>> (((1 : Int32)).toUInt32 &&& Int32.toUInt32 31)).toInt32 &&& (1431655765 : Int32)))).toUInt32 >>> (((2 : Int32)).toUInt32 &&& Int32.toUInt32 31)).toInt32 &&& (858993459 : Int32))) + (((((x0 - (((x0).toUInt32 >>> (((1 : Int32)).toUInt32 &&& Int32.toUInt32 31)).toInt32 &&& (1431655765 : Int32))) &&& (858993459 : Int32)) + ((((x0 - (((x0).toUInt32 >>> (((1 : Int32)).toUInt32 &&& Int32.toUInt32 31)).toInt32 &&& (1431655765 : Int32)))).toUInt32 >>> (((2 : Int32)).toUInt32 &&& Int32.toUInt32 31)).toInt32 &&& (858993459 : Int32)))).toUInt32 >>> (((4 : Int32)).toUInt32 &&& Int32.toUInt32 31)).toInt32) &&& (252645135 : Int32))).toUInt32 >>> (((8 : Int32)).toUInt32 &&& Int32.toUInt32 31)).toInt32)).toUInt32 >>> (((16 : Int32)).toUInt32 &&& Int32.toUInt32 31)).toInt32))]) (by decide +kernel) rfl mx_230 rfl rfl ?_
  refine fs_iload_n (k := 0) (p := 49) (by decide +kernel) rfl rfl ?_
  refine fs_bipush (n := 63) (p := 51) (by decide +kernel) rfl kb_63 ?_
  refine fs_iand (p := 52) (by decide +kernel) rfl ?_
  have h := Option.some.inj h
  subst h
  exact fs_iret (by decide +kernel) rt_230
end
