/-! ZoneSharesModel.isTold(I)Z -/
theorem mx_144 : iv_mx 144 = 2 := by decide +kernel
theorem rt_144 : iv_rt 144 = some .boolean := by decide +kernel
def fm_144 (x1 : Int32) (σ : fx_S) : Option (Bool × fx_S) :=
  (fx_ld σ 216 (2 : Int32)).bind fun v5 =>
  if ¬ ((v5 >>> (x1 &&& 31)) &&& (1 : Int32)) = (1 : Int32) then (
    some (false, σ)) else (
    some (true, σ))
theorem fe_144 {d : Nat} (hd : 0 ≤ d) {x1 : Int32} {σ : fx_S} {q : Bool × fx_S} (h : fm_144 x1 σ = some q) : fx_E none 144 d 0 [some (.ref 215), some (.int x1)] [] σ (some (.int (fx_b q.1))) q.2 := by
  unfold fm_144 at h
  refine fs_aload_n (k := 0) (p := 1) (by decide +kernel) rfl rfl ?_
  refine fs_gfr (idx := 9) (ci := 10) (j := 0) (p := 4) (by decide +kernel) rfl (by decide +kernel) fo_215 (fr_a215_0) ?_
  refine fs_iconst (n := 2) (p := 5) (by decide +kernel) rfl kc_2 ?_
  obtain ⟨v5, w6, h⟩ := fx_bd h
  refine fs_iaload (p := 6) (by decide +kernel) rfl w6 ?_
  refine fs_iload_n (k := 1) (p := 7) (by decide +kernel) rfl rfl ?_
  refine fs_ishr (p := 8) (by decide +kernel) rfl ?_
  refine fs_iconst (n := 1) (p := 9) (by decide +kernel) rfl kc_1 ?_
  refine fs_iand (p := 10) (by decide +kernel) rfl ?_
  refine fs_iconst (n := 1) (p := 11) (by decide +kernel) rfl kc_1 ?_
  by_cases c8 : ¬ ((v5 >>> (x1 &&& 31)) &&& (1 : Int32)) = (1 : Int32)
  · rw [if_pos c8] at h
    refine fs_icmp_ne_t (off := 7) (t := 18) (by decide +kernel) (by decide +kernel) c8 ?_
    refine fs_iconst (n := 0) (p := 19) (by decide +kernel) rfl kc_0 ?_
    have h := Option.some.inj h
    subst h
    exact fs_zret (b := false) (by decide +kernel) rt_144
  · rw [if_neg c8] at h
    refine fs_icmp_ne_f (off := 7) (t := 18) (p := 14) (by decide +kernel) (by decide +kernel) rfl c8 ?_
    refine fs_iconst (n := 1) (p := 15) (by decide +kernel) rfl kc_1 ?_
    refine fs_goto (off := 4) (p := 19) (by decide +kernel) (by decide +kernel) ?_
    have h := Option.some.inj h
    subst h
    exact fs_zret (b := true) (by decide +kernel) rt_144

/-! ZoneSharesModel.layer(I)I -/
theorem mx_145 : iv_mx 145 = 3 := by decide +kernel
theorem rt_145 : iv_rt 145 = some .int := by decide +kernel
def fm_145_126 : Nat → Int32 → Int32 → fx_S → Option (Int32 × fx_S)
  | 0, _, _, _ => none
  | n + 1, x1, x2, σ =>
    if (96 : Int32) ≤ x2 then (
      (fx_ld σ 216 (0 : Int32)).bind fun v3 =>
      (fx_ld σ 216 (1 : Int32)).bind fun v5 =>
      some ((v3 * v5), σ)) else (
      (fx_ld σ 219 x2).bind fun v7 =>
      (fx_st σ 216 (((52 : Int32) + ((96 : Int32) * x1)) + x2) v7).bind fun t10 =>
      fm_145_126 n x1 (x2 + (1 : Int32)) t10)
theorem fe_145_126 {d : Nat} (hd : 4 ≤ d) : ∀ (n : Nat) (x1 : Int32) (x2 : Int32) (σ : fx_S) (q : Int32 × fx_S), fm_145_126 n x1 x2 σ = some q → fx_E none 145 d 126 [some (.ref 215), some (.int x1), some (.int x2)] [] σ (some (.int q.1)) q.2 := by
  intro n
  induction n with
  | zero =>
    intro x1 x2 σ q  h
    rw [fm_145_126] at h
    exact fx_no h
  | succ n ih =>
    intro x1 x2 σ q  h
    rw [fm_145_126] at h
    refine fs_iload_n (k := 2) (p := 127) (by decide +kernel) rfl rfl ?_
    refine fs_bipush (n := 96) (p := 129) (by decide +kernel) rfl kb_96 ?_
    by_cases c2 : (96 : Int32) ≤ x2
    · rw [if_pos c2] at h
      refine fs_icmp_ge_t (off := 29) (t := 158) (by decide +kernel) (by decide +kernel) c2 ?_
      refine fs_aload_n (k := 0) (p := 159) (by decide +kernel) rfl rfl ?_
      refine fs_gfr (idx := 9) (ci := 10) (j := 0) (p := 162) (by decide +kernel) rfl (by decide +kernel) fo_215 (fr_a215_0) ?_
      refine fs_iconst (n := 0) (p := 163) (by decide +kernel) rfl kc_0 ?_
      obtain ⟨v3, w4, h⟩ := fx_bd h
      refine fs_iaload (p := 164) (by decide +kernel) rfl w4 ?_
      refine fs_aload_n (k := 0) (p := 165) (by decide +kernel) rfl rfl ?_
      refine fs_gfr (idx := 9) (ci := 10) (j := 0) (p := 168) (by decide +kernel) rfl (by decide +kernel) fo_215 (fr_a215_0) ?_
      refine fs_iconst (n := 1) (p := 169) (by decide +kernel) rfl kc_1 ?_
      obtain ⟨v5, w6, h⟩ := fx_bd h
      refine fs_iaload (p := 170) (by decide +kernel) rfl w6 ?_
      refine fs_imul (p := 171) (by decide +kernel) rfl ?_
      have h := Option.some.inj h
      subst h
      exact fs_iret (by decide +kernel) rt_145
    · rw [if_neg c2] at h
      refine fs_icmp_ge_f (off := 29) (t := 158) (p := 132) (by decide +kernel) (by decide +kernel) rfl c2 ?_
      refine fs_aload_n (k := 0) (p := 133) (by decide +kernel) rfl rfl ?_
      refine fs_gfr (idx := 9) (ci := 10) (j := 0) (p := 136) (by decide +kernel) rfl (by decide +kernel) fo_215 (fr_a215_0) ?_
      refine fs_bipush (n := 52) (p := 138) (by decide +kernel) rfl kb_52 ?_
      refine fs_bipush (n := 96) (p := 140) (by decide +kernel) rfl kb_96 ?_
      refine fs_iload_n (k := 1) (p := 141) (by decide +kernel) rfl rfl ?_
      refine fs_imul (p := 142) (by decide +kernel) rfl ?_
      refine fs_iadd (p := 143) (by decide +kernel) rfl ?_
      refine fs_iload_n (k := 2) (p := 144) (by decide +kernel) rfl rfl ?_
      refine fs_iadd (p := 145) (by decide +kernel) rfl ?_
      refine fs_aload_n (k := 0) (p := 146) (by decide +kernel) rfl rfl ?_
      refine fs_gfr (idx := 20) (ci := 10) (j := 7) (p := 149) (by decide +kernel) rfl (by decide +kernel) fo_215 (fr_a215_7) ?_
      refine fs_iload_n (k := 2) (p := 150) (by decide +kernel) rfl rfl ?_
      obtain ⟨v7, w8, h⟩ := fx_bd h
      refine fs_iaload (p := 151) (by decide +kernel) rfl w8 ?_
      obtain ⟨t10, w11, h⟩ := fx_bd h
      refine fs_iastore (p := 152) (by decide +kernel) rfl w11 ?_
      refine fs_iinc (k := 2) (n := 1) (p := 155) (M := 3) (al' := [some (.ref 215), some (.int x1), some (.int (x2 + (1 : Int32)))]) (by decide +kernel) rfl kc_1 mx_145 rfl rfl rfl ?_
      refine fs_goto (off := -29) (p := 126) (by decide +kernel) (by decide +kernel) ?_
      exact ih _ _ _ _ h
def fm_145_112 (x1 : Int32) (σ : fx_S) : Option (Int32 × fx_S) :=
  (fx_ld σ 216 (2 : Int32)).bind fun v1 =>
  (fx_st σ 216 (2 : Int32) (v1 ||| ((1 : Int32) <<< (x1 &&& 31)))).bind fun t3 =>
  fm_145_126 100000 x1 (0 : Int32) t3
theorem fe_145_112 {d : Nat} (hd : 4 ≤ d) (x1 : Int32) (σ : fx_S) (q : Int32 × fx_S) (h : fm_145_112  x1 σ = some q) : fx_E none 145 d 112 [some (.ref 215), some (.int x1), none] [] σ (some (.int q.1)) q.2 := by
  unfold fm_145_112 at h
  refine fs_aload_n (k := 0) (p := 113) (by decide +kernel) rfl rfl ?_
  refine fs_gfr (idx := 9) (ci := 10) (j := 0) (p := 116) (by decide +kernel) rfl (by decide +kernel) fo_215 (fr_a215_0) ?_
  refine fs_iconst (n := 2) (p := 117) (by decide +kernel) rfl kc_2 ?_
  refine fs_dup2 (p := 118) (by decide +kernel) rfl rfl rfl ?_
  obtain ⟨v1, w2, h⟩ := fx_bd h
  refine fs_iaload (p := 119) (by decide +kernel) rfl w2 ?_
  refine fs_iconst (n := 1) (p := 120) (by decide +kernel) rfl kc_1 ?_
  refine fs_iload_n (k := 1) (p := 121) (by decide +kernel) rfl rfl ?_
  refine fs_ishl (p := 122) (by decide +kernel) rfl ?_
  refine fs_ior (p := 123) (by decide +kernel) rfl ?_
  obtain ⟨t3, w4, h⟩ := fx_bd h
  refine fs_iastore (p := 124) (by decide +kernel) rfl w4 ?_
  refine fs_iconst (n := 0) (p := 125) (by decide +kernel) rfl kc_0 ?_
  refine fs_istore_n (k := 2) (p := 126) (M := 3) (al' := [some (.ref 215), some (.int x1), some (.int (0 : Int32))]) (by decide +kernel) rfl mx_145 rfl rfl ?_
  exact fe_145_126 hd 100000 _ _ _ _ h
def fm_145_85 (x1 : Int32) (σ : fx_S) : Option (Int32 × fx_S) :=
  (fx_st σ 216 (2 : Int32) (0 : Int32)).bind fun t1 =>
  (fx_st t1 216 (0 : Int32) (t1.1 215 8)).bind fun t3 =>
  (fx_st t3 216 (1 : Int32) (t3.1 215 9)).bind fun t5 =>
  fm_145_112 x1 t5
theorem fe_145_85 {d : Nat} (hd : 4 ≤ d) (x1 : Int32) (σ : fx_S) (q : Int32 × fx_S) (h : fm_145_85  x1 σ = some q) : fx_E none 145 d 85 [some (.ref 215), some (.int x1), none] [] σ (some (.int q.1)) q.2 := by
  unfold fm_145_85 at h
  refine fs_aload_n (k := 0) (p := 86) (by decide +kernel) rfl rfl ?_
  refine fs_gfr (idx := 9) (ci := 10) (j := 0) (p := 89) (by decide +kernel) rfl (by decide +kernel) fo_215 (fr_a215_0) ?_
  refine fs_iconst (n := 2) (p := 90) (by decide +kernel) rfl kc_2 ?_
  refine fs_iconst (n := 0) (p := 91) (by decide +kernel) rfl kc_0 ?_
  obtain ⟨t1, w2, h⟩ := fx_bd h
  refine fs_iastore (p := 92) (by decide +kernel) rfl w2 ?_
  refine fs_aload_n (k := 0) (p := 93) (by decide +kernel) rfl rfl ?_
  refine fs_gfr (idx := 9) (ci := 10) (j := 0) (p := 96) (by decide +kernel) rfl (by decide +kernel) fo_215 (fr_a215_0) ?_
  refine fs_iconst (n := 0) (p := 97) (by decide +kernel) rfl kc_0 ?_
  refine fs_aload_n (k := 0) (p := 98) (by decide +kernel) rfl rfl ?_
  refine fs_gfi (idx := 148) (ci := 10) (j := 8) (p := 101) (by decide +kernel) rfl (by decide +kernel) fo_215 ?_
  obtain ⟨t3, w4, h⟩ := fx_bd h
  refine fs_iastore (p := 102) (by decide +kernel) rfl w4 ?_
  refine fs_aload_n (k := 0) (p := 103) (by decide +kernel) rfl rfl ?_
  refine fs_gfr (idx := 9) (ci := 10) (j := 0) (p := 106) (by decide +kernel) rfl (by decide +kernel) fo_215 (fr_a215_0) ?_
  refine fs_iconst (n := 1) (p := 107) (by decide +kernel) rfl kc_1 ?_
  refine fs_aload_n (k := 0) (p := 108) (by decide +kernel) rfl rfl ?_
  refine fs_gfi (idx := 155) (ci := 10) (j := 9) (p := 111) (by decide +kernel) rfl (by decide +kernel) fo_215 ?_
  obtain ⟨t5, w6, h⟩ := fx_bd h
  refine fs_iastore (p := 112) (by decide +kernel) rfl w6 ?_
  exact fe_145_112 hd _ _ _ h
def fm_145_26 (x1 : Int32) (σ : fx_S) : Option (Int32 × fx_S) :=
  (fm_143 x1 σ).bind fun q2 =>
  (fm_138 (fx_w1 q2 215 4 (0 : Int32))).bind fun q4 =>
  if ¬ (fx_b q4.1) = 0 then (
    (fm_132 q4.2).bind fun q7 =>
    if ¬ x1 = 0 then (
      fm_145_112 x1 q7) else (
      (fx_ld q7 216 (0 : Int32)).bind fun v10 =>
      if ¬ (q7.1 215 8) = v10 then (
        fm_145_85 x1 q7) else (
        (fx_ld q7 216 (1 : Int32)).bind fun v15 =>
        if (q7.1 215 9) = v15 then (
          fm_145_112 x1 q7) else (
          fm_145_85 x1 q7)))) else (
    some (((-2 : Int32) - (q4.2.1 215 6)), q4.2))
theorem fe_145_26 {d : Nat} (hd : 4 ≤ d) (x1 : Int32) (σ : fx_S) (q : Int32 × fx_S) (h : fm_145_26  x1 σ = some q) : fx_E none 145 d 26 [some (.ref 215), some (.int x1), none] [] σ (some (.int q.1)) q.2 := by
  unfold fm_145_26 at h
  refine fs_aload_n (k := 0) (p := 27) (by decide +kernel) rfl rfl ?_
  refine fs_iload_n (k := 1) (p := 28) (by decide +kernel) rfl rfl ?_
  obtain ⟨q2, w1, h⟩ := fx_bd h
  refine fs_callV (idx := 167) (mj := 143) (ci := 10) (na := 1) (mx := 4) (p := 31) (args := [.ref 215, .int x1]) (rest := []) (al2 := [some (.ref 215), some (.int x1), none, none]) (by decide +kernel) rfl (by decide +kernel) fo_215 rfl rfl rfl rfl rfl rfl rfl (by omega) (fun d' hd' => fe_143 (by omega) w1) rfl ?_
  refine fs_aload_n (k := 0) (p := 32) (by decide +kernel) rfl rfl ?_
  refine fs_iconst (n := 0) (p := 33) (by decide +kernel) rfl kc_0 ?_
  refine fs_pfi (idx := 107) (ci := 10) (j := 4) (p := 36) (by decide +kernel) rfl (by decide +kernel) (by decide +kernel) fo_215 (fx_oki _ (by decide +kernel)) ?_
  refine fs_aload_n (k := 0) (p := 37) (by decide +kernel) rfl rfl ?_
  obtain ⟨q4, w3, h⟩ := fx_bd h
  refine fs_callV (idx := 120) (mj := 138) (ci := 10) (na := 0) (mx := 1) (p := 40) (args := [.ref 215]) (rest := []) (al2 := [some (.ref 215)]) (by decide +kernel) rfl (by decide +kernel) fo_215 rfl rfl rfl rfl rfl rfl rfl (by omega) (fun d' hd' => fe_138 (by omega) w3) rfl ?_
  by_cases c5 : ¬ (fx_b q4.1) = 0
  · rw [if_pos c5] at h
    refine fs_if_ne_t (off := 11) (t := 51) (by decide +kernel) (by decide +kernel) c5 ?_
    refine fs_aload_n (k := 0) (p := 52) (by decide +kernel) rfl rfl ?_
    obtain ⟨q7, w6, h⟩ := fx_bd h
    refine fs_callV (idx := 170) (mj := 132) (ci := 10) (na := 0) (mx := 2) (p := 55) (args := [.ref 215]) (rest := []) (al2 := [some (.ref 215), none]) (by decide +kernel) rfl (by decide +kernel) fo_215 rfl rfl rfl rfl rfl rfl rfl (by omega) (fun d' hd' => fe_132 (by omega) w6) rfl ?_
    refine fs_iload_n (k := 1) (p := 56) (by decide +kernel) rfl rfl ?_
    by_cases c9 : ¬ x1 = 0
    · rw [if_pos c9] at h
      refine fs_if_ne_t (off := 56) (t := 112) (by decide +kernel) (by decide +kernel) c9 ?_
      exact fe_145_112 hd _ _ _ h
    · rw [if_neg c9] at h
      refine fs_if_ne_f (off := 56) (t := 112) (p := 59) (by decide +kernel) (by decide +kernel) rfl c9 ?_
      refine fs_aload_n (k := 0) (p := 60) (by decide +kernel) rfl rfl ?_
      refine fs_gfi (idx := 148) (ci := 10) (j := 8) (p := 63) (by decide +kernel) rfl (by decide +kernel) fo_215 ?_
      refine fs_aload_n (k := 0) (p := 64) (by decide +kernel) rfl rfl ?_
      refine fs_gfr (idx := 9) (ci := 10) (j := 0) (p := 67) (by decide +kernel) rfl (by decide +kernel) fo_215 (fr_a215_0) ?_
      refine fs_iconst (n := 0) (p := 68) (by decide +kernel) rfl kc_0 ?_
      obtain ⟨v10, w11, h⟩ := fx_bd h
      refine fs_iaload (p := 69) (by decide +kernel) rfl w11 ?_
      by_cases c14 : ¬ (q7.1 215 8) = v10
      · rw [if_pos c14] at h
        refine fs_icmp_ne_t (off := 16) (t := 85) (by decide +kernel) (by decide +kernel) c14 ?_
        exact fe_145_85 hd _ _ _ h
      · rw [if_neg c14] at h
        refine fs_icmp_ne_f (off := 16) (t := 85) (p := 72) (by decide +kernel) (by decide +kernel) rfl c14 ?_
        refine fs_aload_n (k := 0) (p := 73) (by decide +kernel) rfl rfl ?_
        refine fs_gfi (idx := 155) (ci := 10) (j := 9) (p := 76) (by decide +kernel) rfl (by decide +kernel) fo_215 ?_
        refine fs_aload_n (k := 0) (p := 77) (by decide +kernel) rfl rfl ?_
        refine fs_gfr (idx := 9) (ci := 10) (j := 0) (p := 80) (by decide +kernel) rfl (by decide +kernel) fo_215 (fr_a215_0) ?_
        refine fs_iconst (n := 1) (p := 81) (by decide +kernel) rfl kc_1 ?_
        obtain ⟨v15, w16, h⟩ := fx_bd h
        refine fs_iaload (p := 82) (by decide +kernel) rfl w16 ?_
        by_cases c19 : (q7.1 215 9) = v15
        · rw [if_pos c19] at h
          refine fs_icmp_eq_t (off := 30) (t := 112) (by decide +kernel) (by decide +kernel) c19 ?_
          exact fe_145_112 hd _ _ _ h
        · rw [if_neg c19] at h
          refine fs_icmp_eq_f (off := 30) (t := 112) (p := 85) (by decide +kernel) (by decide +kernel) rfl c19 ?_
          exact fe_145_85 hd _ _ _ h
  · rw [if_neg c5] at h
    refine fs_if_ne_f (off := 11) (t := 51) (p := 43) (by decide +kernel) (by decide +kernel) rfl c5 ?_
    refine fs_bipush (n := -2) (p := 45) (by decide +kernel) rfl kb_m2 ?_
    refine fs_aload_n (k := 0) (p := 46) (by decide +kernel) rfl rfl ?_
    refine fs_gfi (idx := 117) (ci := 10) (j := 6) (p := 49) (by decide +kernel) rfl (by decide +kernel) fo_215 ?_
    refine fs_isub (p := 50) (by decide +kernel) rfl ?_
    have h := Option.some.inj h
    subst h
    exact fs_iret (by decide +kernel) rt_145
def fm_145 (x1 : Int32) (σ : fx_S) : Option (Int32 × fx_S) :=
  (fm_130 (x1).toInt64 (0 : Int64) (2 : Int64) σ).bind fun q52 =>
  if (fx_b q52.1) = 0 then (
    some ((-1 : Int32), q52.2)) else (
    if x1 = 0 then (
      fm_145_26 x1 q52.2) else (
      (fm_144 (0 : Int32) q52.2).bind fun q56 =>
      if ¬ (fx_b q56.1) = 0 then (
        fm_145_26 x1 q56.2) else (
        some ((-1 : Int32), q56.2))))
theorem fe_145 {d : Nat} (hd : 4 ≤ d) {x1 : Int32} {σ : fx_S} {q : Int32 × fx_S} (h : fm_145 x1 σ = some q) : fx_E none 145 d 0 [some (.ref 215), some (.int x1), none] [] σ (some (.int q.1)) q.2 := by
  unfold fm_145 at h
  refine fs_iload_n (k := 1) (p := 1) (by decide +kernel) rfl rfl ?_
  refine fs_i2l (p := 2) (by decide +kernel) rfl ?_
  refine fs_lconst (n := 0) (p := 3) (by decide +kernel) rfl kl_0 ?_
  refine fs_ldc2 (idx := 161) (p := 6) (x := 2) (by decide +kernel) rfl (by decide +kernel) ?_
  obtain ⟨q52, w51, h⟩ := fx_bd h
  refine fs_callS (idx := 128) (mj := 130) (na := 3) (mx := 6) (p := 9) (args := [.long (x1).toInt64, .long (0 : Int64), .long (2 : Int64)]) (rest := []) (al2 := [some (.long (x1).toInt64), none, some (.long (0 : Int64)), none, some (.long (2 : Int64)), none]) (by decide +kernel) rfl (by decide +kernel) rfl rfl rfl rfl rfl rfl rfl (by omega) (fun d' hd' => fe_130 (by omega) w51) rfl ?_
  by_cases c53 : (fx_b q52.1) = 0
  · rw [if_pos c53] at h
    refine fs_if_eq_t (off := 15) (t := 24) (by decide +kernel) (by decide +kernel) c53 ?_
    refine fs_iconst (n := -1) (p := 25) (by decide +kernel) rfl kc_m1 ?_
    have h := Option.some.inj h
    subst h
    exact fs_iret (by decide +kernel) rt_145
  · rw [if_neg c53] at h
    refine fs_if_eq_f (off := 15) (t := 24) (p := 12) (by decide +kernel) (by decide +kernel) rfl c53 ?_
    refine fs_iload_n (k := 1) (p := 13) (by decide +kernel) rfl rfl ?_
    by_cases c54 : x1 = 0
    · rw [if_pos c54] at h
      refine fs_if_eq_t (off := 13) (t := 26) (by decide +kernel) (by decide +kernel) c54 ?_
      exact fe_145_26 hd _ _ _ h
    · rw [if_neg c54] at h
      refine fs_if_eq_f (off := 13) (t := 26) (p := 16) (by decide +kernel) (by decide +kernel) rfl c54 ?_
      refine fs_aload_n (k := 0) (p := 17) (by decide +kernel) rfl rfl ?_
      refine fs_iconst (n := 0) (p := 18) (by decide +kernel) rfl kc_0 ?_
      obtain ⟨q56, w55, h⟩ := fx_bd h
      refine fs_callV (idx := 163) (mj := 144) (ci := 10) (na := 1) (mx := 2) (p := 21) (args := [.ref 215, .int (0 : Int32)]) (rest := []) (al2 := [some (.ref 215), some (.int (0 : Int32))]) (by decide +kernel) rfl (by decide +kernel) fo_215 rfl rfl rfl rfl rfl rfl rfl (by omega) (fun d' hd' => fe_144 (by omega) w55) rfl ?_
      by_cases c57 : ¬ (fx_b q56.1) = 0
      · rw [if_pos c57] at h
        refine fs_if_ne_t (off := 5) (t := 26) (by decide +kernel) (by decide +kernel) c57 ?_
        exact fe_145_26 hd _ _ _ h
      · rw [if_neg c57] at h
        refine fs_if_ne_f (off := 5) (t := 26) (p := 24) (by decide +kernel) (by decide +kernel) rfl c57 ?_
        refine fs_iconst (n := -1) (p := 25) (by decide +kernel) rfl kc_m1 ?_
        have h := Option.some.inj h
        subst h
        exact fs_iret (by decide +kernel) rt_145

/-! ZoneSharesModel.readsPart()V -/
theorem mx_146 : iv_mx 146 = 5 := by decide +kernel
theorem rt_146 : iv_rt 146 = none := by decide +kernel
def fm_146_236 (x2 : Int32) (x4 : Int32) (σ : fx_S) : Option (fx_S) :=
  (fx_st σ 220 x2 x4).bind fun t1 =>
  some (fx_w1 t1 215 11 ((t1.1 215 11) ||| ((1 : Int32) <<< (x2 &&& 31))))
theorem fe_146_236 {d : Nat} (hd : 2 ≤ d) (x2 : Int32) (x4 : Int32) (o1 : Option Value) (o3 : Option Value) (σ : fx_S) (q : fx_S) (h : fm_146_236  x2 x4 σ = some q) : fx_E none 146 d 236 [some (.ref 215), o1, some (.int x2), o3, some (.int x4)] [] σ none q := by
  unfold fm_146_236 at h
  refine fs_aload_n (k := 0) (p := 237) (by decide +kernel) rfl rfl ?_
  refine fs_gfr (idx := 23) (ci := 10) (j := 10) (p := 240) (by decide +kernel) rfl (by decide +kernel) fo_215 (fr_a215_10) ?_
  refine fs_iload_n (k := 2) (p := 241) (by decide +kernel) rfl rfl ?_
  refine fs_iload (k := 4) (p := 243) (by decide +kernel) rfl rfl ?_
  obtain ⟨t1, w2, h⟩ := fx_bd h
  refine fs_iastore (p := 244) (by decide +kernel) rfl w2 ?_
  refine fs_aload_n (k := 0) (p := 245) (by decide +kernel) rfl rfl ?_
  refine fs_dup (p := 246) (by decide +kernel) rfl rfl ?_
  refine fs_gfi (idx := 173) (ci := 10) (j := 11) (p := 249) (by decide +kernel) rfl (by decide +kernel) fo_215 ?_
  refine fs_iconst (n := 1) (p := 250) (by decide +kernel) rfl kc_1 ?_
  refine fs_iload_n (k := 2) (p := 251) (by decide +kernel) rfl rfl ?_
  refine fs_ishl (p := 252) (by decide +kernel) rfl ?_
  refine fs_ior (p := 253) (by decide +kernel) rfl ?_
  refine fs_pfi (idx := 173) (ci := 10) (j := 11) (p := 256) (by decide +kernel) rfl (by decide +kernel) (by decide +kernel) fo_215 (fx_oki _ (by decide +kernel)) ?_
  have h := Option.some.inj h
  subst h
  exact fs_ret (by decide +kernel) rt_146
def fm_146_222 (x2 : Int32) (x3 : Int32) (x4 : Int32) (σ : fx_S) : Option (fx_S) :=
  if x4 ≤ (9999 : Int32) then (
    fm_146_236 x2 x4 σ) else (
    (fm_139 (2 : Int32) x3 σ).bind fun q4 =>
    fm_146_236 x2 x4 q4)
theorem fe_146_222 {d : Nat} (hd : 2 ≤ d) (x2 : Int32) (x3 : Int32) (x4 : Int32) (o1 : Option Value) (σ : fx_S) (q : fx_S) (h : fm_146_222  x2 x3 x4 σ = some q) : fx_E none 146 d 222 [some (.ref 215), o1, some (.int x2), some (.int x3), some (.int x4)] [] σ none q := by
  unfold fm_146_222 at h
  refine fs_iload (k := 4) (p := 224) (by decide +kernel) rfl rfl ?_
  refine fs_sipush (n := 9999) (p := 227) (by decide +kernel) rfl ks_9999 ?_
  by_cases c2 : x4 ≤ (9999 : Int32)
  · rw [if_pos c2] at h
    refine fs_icmp_le_t (off := 9) (t := 236) (by decide +kernel) (by decide +kernel) c2 ?_
    exact fe_146_236 hd _ _ _ _ _ _ h
  · rw [if_neg c2] at h
    refine fs_icmp_le_f (off := 9) (t := 236) (p := 230) (by decide +kernel) (by decide +kernel) rfl c2 ?_
    refine fs_aload_n (k := 0) (p := 231) (by decide +kernel) rfl rfl ?_
    refine fs_iconst (n := 2) (p := 232) (by decide +kernel) rfl kc_2 ?_
    refine fs_iload_n (k := 3) (p := 233) (by decide +kernel) rfl rfl ?_
    obtain ⟨q4, w3, h⟩ := fx_bd h
    refine fs_callV (idx := 144) (mj := 139) (ci := 10) (na := 2) (mx := 3) (p := 236) (args := [.ref 215, .int (2 : Int32), .int x3]) (rest := []) (al2 := [some (.ref 215), some (.int (2 : Int32)), some (.int x3)]) (by decide +kernel) rfl (by decide +kernel) fo_215 rfl rfl rfl rfl rfl rfl rfl (by omega) (fun d' hd' => fe_139 (by omega) w3) rfl ?_
    exact fe_146_236 hd _ _ _ _ _ _ h
def fm_146_164 : Nat → Int32 → Int32 → Int32 → fx_S → Option (fx_S)
  | 0, _, _, _, _ => none
  | n + 1, x2, x3, x4, σ =>
    (fm_138 σ).bind fun q2 =>
    if (fx_b q2.1) = 0 then (
      fm_146_222 x2 x3 x4 q2.2) else (
      (fm_137 q2.2).bind fun q5 =>
      (fm_130 (q5.1).toInt64 (48 : Int64) (57 : Int64) q5.2).bind fun q8 =>
      if (fx_b q8.1) = 0 then (
        fm_146_222 x2 x3 x4 q8.2) else (
        (fm_137 q8.2).bind fun q11 =>
        fm_146_164 n x2 x3 (if ((((10 : Int32) * x4) + q11.1) - (48 : Int32)) < (10000 : Int32) then ((((10 : Int32) * x4) + q11.1) - (48 : Int32)) else (10000 : Int32)) (fx_w1 q11.2 215 5 ((q11.2.1 215 5) + (1 : Int32)))))
theorem fe_146_164 {d : Nat} (hd : 2 ≤ d) : ∀ (n : Nat) (x2 : Int32) (x3 : Int32) (x4 : Int32) (o1 : Option Value) (σ : fx_S) (q : fx_S), fm_146_164 n x2 x3 x4 σ = some q → fx_E none 146 d 164 [some (.ref 215), o1, some (.int x2), some (.int x3), some (.int x4)] [] σ none q := by
  intro n
  induction n with
  | zero =>
    intro x2 x3 x4 o1 σ q  h
    rw [fm_146_164] at h
    exact fx_no h
  | succ n ih =>
    intro x2 x3 x4 o1 σ q  h
    rw [fm_146_164] at h
    refine fs_aload_n (k := 0) (p := 165) (by decide +kernel) rfl rfl ?_
    obtain ⟨q2, w1, h⟩ := fx_bd h
    refine fs_callV (idx := 120) (mj := 138) (ci := 10) (na := 0) (mx := 1) (p := 168) (args := [.ref 215]) (rest := []) (al2 := [some (.ref 215)]) (by decide +kernel) rfl (by decide +kernel) fo_215 rfl rfl rfl rfl rfl rfl rfl (by omega) (fun d' hd' => fe_138 (by omega) w1) rfl ?_
    by_cases c3 : (fx_b q2.1) = 0
    · rw [if_pos c3] at h
      refine fs_if_eq_t (off := 54) (t := 222) (by decide +kernel) (by decide +kernel) c3 ?_
      exact fe_146_222 hd _ _ _ _ _ _ h
    · rw [if_neg c3] at h
      refine fs_if_eq_f (off := 54) (t := 222) (p := 171) (by decide +kernel) (by decide +kernel) rfl c3 ?_
      refine fs_aload_n (k := 0) (p := 172) (by decide +kernel) rfl rfl ?_
      obtain ⟨q5, w4, h⟩ := fx_bd h
      refine fs_callV (idx := 136) (mj := 137) (ci := 10) (na := 0) (mx := 1) (p := 175) (args := [.ref 215]) (rest := []) (al2 := [some (.ref 215)]) (by decide +kernel) rfl (by decide +kernel) fo_215 rfl rfl rfl rfl rfl rfl rfl (by omega) (fun d' hd' => fe_137 (by omega) w4) rfl ?_
      refine fs_i2l (p := 176) (by decide +kernel) rfl ?_
      refine fs_ldc2 (idx := 124) (p := 179) (x := 48) (by decide +kernel) rfl (by decide +kernel) ?_
      refine fs_ldc2 (idx := 176) (p := 182) (x := 57) (by decide +kernel) rfl (by decide +kernel) ?_
      obtain ⟨q8, w7, h⟩ := fx_bd h
      refine fs_callS (idx := 128) (mj := 130) (na := 3) (mx := 6) (p := 185) (args := [.long (q5.1).toInt64, .long (48 : Int64), .long (57 : Int64)]) (rest := []) (al2 := [some (.long (q5.1).toInt64), none, some (.long (48 : Int64)), none, some (.long (57 : Int64)), none]) (by decide +kernel) rfl (by decide +kernel) rfl rfl rfl rfl rfl rfl rfl (by omega) (fun d' hd' => fe_130 (by omega) w7) rfl ?_
      by_cases c9 : (fx_b q8.1) = 0
      · rw [if_pos c9] at h
        refine fs_if_eq_t (off := 37) (t := 222) (by decide +kernel) (by decide +kernel) c9 ?_
        exact fe_146_222 hd _ _ _ _ _ _ h
      · rw [if_neg c9] at h
        refine fs_if_eq_f (off := 37) (t := 222) (p := 188) (by decide +kernel) (by decide +kernel) rfl c9 ?_
        refine fs_sipush (n := 10000) (p := 191) (by decide +kernel) rfl ks_10000 ?_
        refine fs_bipush (n := 10) (p := 193) (by decide +kernel) rfl kb_10 ?_
        refine fs_iload (k := 4) (p := 195) (by decide +kernel) rfl rfl ?_
        refine fs_imul (p := 196) (by decide +kernel) rfl ?_
        refine fs_aload_n (k := 0) (p := 197) (by decide +kernel) rfl rfl ?_
        obtain ⟨q11, w10, h⟩ := fx_bd h
        refine fs_callV (idx := 136) (mj := 137) (ci := 10) (na := 0) (mx := 1) (p := 200) (args := [.ref 215]) (rest := [.int ((10 : Int32) * x4), .int (10000 : Int32)]) (al2 := [some (.ref 215)]) (by decide +kernel) rfl (by decide +kernel) fo_215 rfl rfl rfl rfl rfl rfl rfl (by omega) (fun d' hd' => fe_137 (by omega) w10) rfl ?_
        refine fs_iadd (p := 201) (by decide +kernel) rfl ?_
        refine fs_bipush (n := 48) (p := 203) (by decide +kernel) rfl kb_48 ?_
        refine fs_isub (p := 204) (by decide +kernel) rfl ?_
        refine fs_min (idx := 178) (p := 207) (by decide +kernel) rfl (by decide +kernel) rfl ?_
        refine fs_istore (k := 4) (p := 209) (M := 5) (al' := [some (.ref 215), o1, some (.int x2), some (.int x3), some (.int (if ((((10 : Int32) * x4) + q11.1) - (48 : Int32)) < (10000 : Int32) then ((((10 : Int32) * x4) + q11.1) - (48 : Int32)) else (10000 : Int32)))]) (by decide +kernel) rfl mx_146 rfl rfl ?_
        refine fs_aload_n (k := 0) (p := 210) (by decide +kernel) rfl rfl ?_
        refine fs_dup (p := 211) (by decide +kernel) rfl rfl ?_
        refine fs_gfi (idx := 114) (ci := 10) (j := 5) (p := 214) (by decide +kernel) rfl (by decide +kernel) fo_215 ?_
        refine fs_iconst (n := 1) (p := 215) (by decide +kernel) rfl kc_1 ?_
        refine fs_iadd (p := 216) (by decide +kernel) rfl ?_
        refine fs_pfi (idx := 114) (ci := 10) (j := 5) (p := 219) (by decide +kernel) rfl (by decide +kernel) (by decide +kernel) fo_215 (fx_oki _ (by decide +kernel)) ?_
        refine fs_goto (off := -55) (p := 164) (by decide +kernel) (by decide +kernel) ?_
        exact ih _ _ _ _ _ _ h
def fm_146_161 (x2 : Int32) (x3 : Int32) (σ : fx_S) : Option (fx_S) :=
  fm_146_164 100000 x2 x3 (0 : Int32) σ
theorem fe_146_161 {d : Nat} (hd : 2 ≤ d) (x2 : Int32) (x3 : Int32) (o1 : Option Value) (σ : fx_S) (q : fx_S) (h : fm_146_161  x2 x3 σ = some q) : fx_E none 146 d 161 [some (.ref 215), o1, some (.int x2), some (.int x3), none] [] σ none q := by
  unfold fm_146_161 at h
  refine fs_iconst (n := 0) (p := 162) (by decide +kernel) rfl kc_0 ?_
  refine fs_istore (k := 4) (p := 164) (M := 5) (al' := [some (.ref 215), o1, some (.int x2), some (.int x3), some (.int (0 : Int32))]) (by decide +kernel) rfl mx_146 rfl rfl ?_
  exact fe_146_164 hd 100000 _ _ _ _ _ _ h
def fm_146_113 (x2 : Int32) (σ : fx_S) : Option (fx_S) :=
  (fm_138 (fx_w1 σ 215 5 ((σ.1 215 5) + (1 : Int32)))).bind fun q2 =>
  if (fx_b q2.1) = 0 then (
    fm_146_161 x2 ((fx_w1 σ 215 5 ((σ.1 215 5) + (1 : Int32))).1 215 5) q2.2) else (
    (fm_137 q2.2).bind fun q5 =>
    (fm_130 (q5.1).toInt64 (48 : Int64) (57 : Int64) q5.2).bind fun q8 =>
    if ¬ (fx_b q8.1) = 0 then (
      fm_146_161 x2 ((fx_w1 σ 215 5 ((σ.1 215 5) + (1 : Int32))).1 215 5) q8.2) else (
      (fm_139 (1 : Int32) (q8.2.1 215 5) q8.2).bind fun q11 =>
      fm_146_161 x2 ((fx_w1 σ 215 5 ((σ.1 215 5) + (1 : Int32))).1 215 5) q11))
theorem fe_146_113 {d : Nat} (hd : 2 ≤ d) (x2 : Int32) (o1 : Option Value) (σ : fx_S) (q : fx_S) (h : fm_146_113  x2 σ = some q) : fx_E none 146 d 113 [some (.ref 215), o1, some (.int x2), none, none] [] σ none q := by
  unfold fm_146_113 at h
  refine fs_aload_n (k := 0) (p := 114) (by decide +kernel) rfl rfl ?_
  refine fs_dup (p := 115) (by decide +kernel) rfl rfl ?_
  refine fs_gfi (idx := 114) (ci := 10) (j := 5) (p := 118) (by decide +kernel) rfl (by decide +kernel) fo_215 ?_
  refine fs_iconst (n := 1) (p := 119) (by decide +kernel) rfl kc_1 ?_
  refine fs_iadd (p := 120) (by decide +kernel) rfl ?_
  refine fs_pfi (idx := 114) (ci := 10) (j := 5) (p := 123) (by decide +kernel) rfl (by decide +kernel) (by decide +kernel) fo_215 (fx_oki _ (by decide +kernel)) ?_
  refine fs_aload_n (k := 0) (p := 124) (by decide +kernel) rfl rfl ?_
  refine fs_gfi (idx := 114) (ci := 10) (j := 5) (p := 127) (by decide +kernel) rfl (by decide +kernel) fo_215 ?_
  refine fs_istore_n (k := 3) (p := 128) (M := 5) (al' := [some (.ref 215), o1, some (.int x2), some (.int ((fx_w1 σ 215 5 ((σ.1 215 5) + (1 : Int32))).1 215 5)), none]) (by decide +kernel) rfl mx_146 rfl rfl ?_
  refine fs_aload_n (k := 0) (p := 129) (by decide +kernel) rfl rfl ?_
  obtain ⟨q2, w1, h⟩ := fx_bd h
  refine fs_callV (idx := 120) (mj := 138) (ci := 10) (na := 0) (mx := 1) (p := 132) (args := [.ref 215]) (rest := []) (al2 := [some (.ref 215)]) (by decide +kernel) rfl (by decide +kernel) fo_215 rfl rfl rfl rfl rfl rfl rfl (by omega) (fun d' hd' => fe_138 (by omega) w1) rfl ?_
  by_cases c3 : (fx_b q2.1) = 0
  · rw [if_pos c3] at h
    refine fs_if_eq_t (off := 29) (t := 161) (by decide +kernel) (by decide +kernel) c3 ?_
    exact fe_146_161 hd _ _ _ _ _ h
  · rw [if_neg c3] at h
    refine fs_if_eq_f (off := 29) (t := 161) (p := 135) (by decide +kernel) (by decide +kernel) rfl c3 ?_
    refine fs_aload_n (k := 0) (p := 136) (by decide +kernel) rfl rfl ?_
    obtain ⟨q5, w4, h⟩ := fx_bd h
    refine fs_callV (idx := 136) (mj := 137) (ci := 10) (na := 0) (mx := 1) (p := 139) (args := [.ref 215]) (rest := []) (al2 := [some (.ref 215)]) (by decide +kernel) rfl (by decide +kernel) fo_215 rfl rfl rfl rfl rfl rfl rfl (by omega) (fun d' hd' => fe_137 (by omega) w4) rfl ?_
    refine fs_i2l (p := 140) (by decide +kernel) rfl ?_
    refine fs_ldc2 (idx := 124) (p := 143) (x := 48) (by decide +kernel) rfl (by decide +kernel) ?_
    refine fs_ldc2 (idx := 176) (p := 146) (x := 57) (by decide +kernel) rfl (by decide +kernel) ?_
    obtain ⟨q8, w7, h⟩ := fx_bd h
    refine fs_callS (idx := 128) (mj := 130) (na := 3) (mx := 6) (p := 149) (args := [.long (q5.1).toInt64, .long (48 : Int64), .long (57 : Int64)]) (rest := []) (al2 := [some (.long (q5.1).toInt64), none, some (.long (48 : Int64)), none, some (.long (57 : Int64)), none]) (by decide +kernel) rfl (by decide +kernel) rfl rfl rfl rfl rfl rfl rfl (by omega) (fun d' hd' => fe_130 (by omega) w7) rfl ?_
    by_cases c9 : ¬ (fx_b q8.1) = 0
    · rw [if_pos c9] at h
      refine fs_if_ne_t (off := 12) (t := 161) (by decide +kernel) (by decide +kernel) c9 ?_
      exact fe_146_161 hd _ _ _ _ _ h
    · rw [if_neg c9] at h
      refine fs_if_ne_f (off := 12) (t := 161) (p := 152) (by decide +kernel) (by decide +kernel) rfl c9 ?_
      refine fs_aload_n (k := 0) (p := 153) (by decide +kernel) rfl rfl ?_
      refine fs_iconst (n := 1) (p := 154) (by decide +kernel) rfl kc_1 ?_
      refine fs_aload_n (k := 0) (p := 155) (by decide +kernel) rfl rfl ?_
      refine fs_gfi (idx := 114) (ci := 10) (j := 5) (p := 158) (by decide +kernel) rfl (by decide +kernel) fo_215 ?_
      obtain ⟨q11, w10, h⟩ := fx_bd h
      refine fs_callV (idx := 144) (mj := 139) (ci := 10) (na := 2) (mx := 3) (p := 161) (args := [.ref 215, .int (1 : Int32), .int (q8.2.1 215 5)]) (rest := []) (al2 := [some (.ref 215), some (.int (1 : Int32)), some (.int (q8.2.1 215 5))]) (by decide +kernel) rfl (by decide +kernel) fo_215 rfl rfl rfl rfl rfl rfl rfl (by omega) (fun d' hd' => fe_139 (by omega) w10) rfl ?_
      exact fe_146_161 hd _ _ _ _ _ h
def fm_146_78 (x2 : Int32) (σ : fx_S) : Option (fx_S) :=
  (fm_138 (fx_w1 σ 215 5 ((σ.1 215 5) + (1 : Int32)))).bind fun q2 =>
  if (fx_b q2.1) = 0 then (
    fm_146_113 x2 q2.2) else (
    (fm_137 q2.2).bind fun q5 =>
    if q5.1 = (61 : Int32) then (
      fm_146_113 x2 q5.2) else (
      (fm_139 (1 : Int32) (q5.2.1 215 5) q5.2).bind fun q9 =>
      fm_146_113 x2 q9))
theorem fe_146_78 {d : Nat} (hd : 2 ≤ d) (x2 : Int32) (o1 : Option Value) (σ : fx_S) (q : fx_S) (h : fm_146_78  x2 σ = some q) : fx_E none 146 d 78 [some (.ref 215), o1, some (.int x2), none, none] [] σ none q := by
  unfold fm_146_78 at h
  refine fs_aload_n (k := 0) (p := 79) (by decide +kernel) rfl rfl ?_
  refine fs_dup (p := 80) (by decide +kernel) rfl rfl ?_
  refine fs_gfi (idx := 114) (ci := 10) (j := 5) (p := 83) (by decide +kernel) rfl (by decide +kernel) fo_215 ?_
  refine fs_iconst (n := 1) (p := 84) (by decide +kernel) rfl kc_1 ?_
  refine fs_iadd (p := 85) (by decide +kernel) rfl ?_
  refine fs_pfi (idx := 114) (ci := 10) (j := 5) (p := 88) (by decide +kernel) rfl (by decide +kernel) (by decide +kernel) fo_215 (fx_oki _ (by decide +kernel)) ?_
  refine fs_aload_n (k := 0) (p := 89) (by decide +kernel) rfl rfl ?_
  obtain ⟨q2, w1, h⟩ := fx_bd h
  refine fs_callV (idx := 120) (mj := 138) (ci := 10) (na := 0) (mx := 1) (p := 92) (args := [.ref 215]) (rest := []) (al2 := [some (.ref 215)]) (by decide +kernel) rfl (by decide +kernel) fo_215 rfl rfl rfl rfl rfl rfl rfl (by omega) (fun d' hd' => fe_138 (by omega) w1) rfl ?_
  by_cases c3 : (fx_b q2.1) = 0
  · rw [if_pos c3] at h
    refine fs_if_eq_t (off := 21) (t := 113) (by decide +kernel) (by decide +kernel) c3 ?_
    exact fe_146_113 hd _ _ _ _ h
  · rw [if_neg c3] at h
    refine fs_if_eq_f (off := 21) (t := 113) (p := 95) (by decide +kernel) (by decide +kernel) rfl c3 ?_
    refine fs_aload_n (k := 0) (p := 96) (by decide +kernel) rfl rfl ?_
    obtain ⟨q5, w4, h⟩ := fx_bd h
    refine fs_callV (idx := 136) (mj := 137) (ci := 10) (na := 0) (mx := 1) (p := 99) (args := [.ref 215]) (rest := []) (al2 := [some (.ref 215)]) (by decide +kernel) rfl (by decide +kernel) fo_215 rfl rfl rfl rfl rfl rfl rfl (by omega) (fun d' hd' => fe_137 (by omega) w4) rfl ?_
    refine fs_bipush (n := 61) (p := 101) (by decide +kernel) rfl kb_61 ?_
    by_cases c7 : q5.1 = (61 : Int32)
    · rw [if_pos c7] at h
      refine fs_icmp_eq_t (off := 12) (t := 113) (by decide +kernel) (by decide +kernel) c7 ?_
      exact fe_146_113 hd _ _ _ _ h
    · rw [if_neg c7] at h
      refine fs_icmp_eq_f (off := 12) (t := 113) (p := 104) (by decide +kernel) (by decide +kernel) rfl c7 ?_
      refine fs_aload_n (k := 0) (p := 105) (by decide +kernel) rfl rfl ?_
      refine fs_iconst (n := 1) (p := 106) (by decide +kernel) rfl kc_1 ?_
      refine fs_aload_n (k := 0) (p := 107) (by decide +kernel) rfl rfl ?_
      refine fs_gfi (idx := 114) (ci := 10) (j := 5) (p := 110) (by decide +kernel) rfl (by decide +kernel) fo_215 ?_
      obtain ⟨q9, w8, h⟩ := fx_bd h
      refine fs_callV (idx := 144) (mj := 139) (ci := 10) (na := 2) (mx := 3) (p := 113) (args := [.ref 215, .int (1 : Int32), .int (q5.2.1 215 5)]) (rest := []) (al2 := [some (.ref 215), some (.int (1 : Int32)), some (.int (q5.2.1 215 5))]) (by decide +kernel) rfl (by decide +kernel) fo_215 rfl rfl rfl rfl rfl rfl rfl (by omega) (fun d' hd' => fe_139 (by omega) w8) rfl ?_
      exact fe_146_113 hd _ _ _ _ h
def fm_146_47 (x1 : Int32) (s0 : Int32) (σ : fx_S) : Option (fx_S) :=
  if ¬ s0 = (-1 : Int32) then (
    if ¬ (((σ.1 215 11) >>> (s0 &&& 31)) &&& (1 : Int32)) = (1 : Int32) then (
      fm_146_78 s0 σ) else (
      (fm_139 (3 : Int32) x1 σ).bind fun q6 =>
      fm_146_78 s0 q6)) else (
    (fm_139 (1 : Int32) x1 σ).bind fun q8 =>
    some q8)
theorem fe_146_47 {d : Nat} (hd : 2 ≤ d) (x1 : Int32) (s0 : Int32) (σ : fx_S) (q : fx_S) (h : fm_146_47  x1 s0 σ = some q) : fx_E none 146 d 47 [some (.ref 215), some (.int x1), none, none, none] [.int s0] σ none q := by
  unfold fm_146_47 at h
  refine fs_istore_n (k := 2) (p := 48) (M := 5) (al' := [some (.ref 215), some (.int x1), some (.int s0), none, none]) (by decide +kernel) rfl mx_146 rfl rfl ?_
  refine fs_iload_n (k := 2) (p := 49) (by decide +kernel) rfl rfl ?_
  refine fs_iconst (n := -1) (p := 50) (by decide +kernel) rfl kc_m1 ?_
  by_cases c2 : ¬ s0 = (-1 : Int32)
  · rw [if_pos c2] at h
    refine fs_icmp_ne_t (off := 10) (t := 60) (by decide +kernel) (by decide +kernel) c2 ?_
    refine fs_aload_n (k := 0) (p := 61) (by decide +kernel) rfl rfl ?_
    refine fs_gfi (idx := 173) (ci := 10) (j := 11) (p := 64) (by decide +kernel) rfl (by decide +kernel) fo_215 ?_
    refine fs_iload_n (k := 2) (p := 65) (by decide +kernel) rfl rfl ?_
    refine fs_ishr (p := 66) (by decide +kernel) rfl ?_
    refine fs_iconst (n := 1) (p := 67) (by decide +kernel) rfl kc_1 ?_
    refine fs_iand (p := 68) (by decide +kernel) rfl ?_
    refine fs_iconst (n := 1) (p := 69) (by decide +kernel) rfl kc_1 ?_
    by_cases c4 : ¬ (((σ.1 215 11) >>> (s0 &&& 31)) &&& (1 : Int32)) = (1 : Int32)
    · rw [if_pos c4] at h
      refine fs_icmp_ne_t (off := 9) (t := 78) (by decide +kernel) (by decide +kernel) c4 ?_
      exact fe_146_78 hd _ _ _ _ h
    · rw [if_neg c4] at h
      refine fs_icmp_ne_f (off := 9) (t := 78) (p := 72) (by decide +kernel) (by decide +kernel) rfl c4 ?_
      refine fs_aload_n (k := 0) (p := 73) (by decide +kernel) rfl rfl ?_
      refine fs_iconst (n := 3) (p := 74) (by decide +kernel) rfl kc_3 ?_
      refine fs_iload_n (k := 1) (p := 75) (by decide +kernel) rfl rfl ?_
      obtain ⟨q6, w5, h⟩ := fx_bd h
      refine fs_callV (idx := 144) (mj := 139) (ci := 10) (na := 2) (mx := 3) (p := 78) (args := [.ref 215, .int (3 : Int32), .int x1]) (rest := []) (al2 := [some (.ref 215), some (.int (3 : Int32)), some (.int x1)]) (by decide +kernel) rfl (by decide +kernel) fo_215 rfl rfl rfl rfl rfl rfl rfl (by omega) (fun d' hd' => fe_139 (by omega) w5) rfl ?_
      exact fe_146_78 hd _ _ _ _ h
  · rw [if_neg c2] at h
    refine fs_icmp_ne_f (off := 10) (t := 60) (p := 53) (by decide +kernel) (by decide +kernel) rfl c2 ?_
    refine fs_aload_n (k := 0) (p := 54) (by decide +kernel) rfl rfl ?_
    refine fs_iconst (n := 1) (p := 55) (by decide +kernel) rfl kc_1 ?_
    refine fs_iload_n (k := 1) (p := 56) (by decide +kernel) rfl rfl ?_
    obtain ⟨q8, w7, h⟩ := fx_bd h
    refine fs_callV (idx := 144) (mj := 139) (ci := 10) (na := 2) (mx := 3) (p := 59) (args := [.ref 215, .int (1 : Int32), .int x1]) (rest := []) (al2 := [some (.ref 215), some (.int (1 : Int32)), some (.int x1)]) (by decide +kernel) rfl (by decide +kernel) fo_215 rfl rfl rfl rfl rfl rfl rfl (by omega) (fun d' hd' => fe_139 (by omega) w7) rfl ?_
    have h := Option.some.inj h
    subst h
    exact fs_ret (by decide +kernel) rt_146
def fm_146 (σ : fx_S) : Option (fx_S) :=
  (fm_137 σ).bind fun q61 =>
  if ¬ q61.1 = (63 : Int32) then (
    (fm_137 q61.2).bind fun q65 =>
    (fm_130 (q65.1).toInt64 (97 : Int64) (104 : Int64) q65.2).bind fun q68 =>
    if (fx_b q68.1) = 0 then (
      fm_146_47 (σ.1 215 5) (-1 : Int32) q68.2) else (
      (fm_137 q68.2).bind fun q71 =>
      fm_146_47 (σ.1 215 5) (q71.1 - (97 : Int32)) q71.2)) else (
    fm_146_47 (σ.1 215 5) (8 : Int32) q61.2)
theorem fe_146 {d : Nat} (hd : 2 ≤ d) {σ : fx_S} {q : fx_S} (h : fm_146 σ = some q) : fx_E none 146 d 0 [some (.ref 215), none, none, none, none] [] σ none q := by
  unfold fm_146 at h
  refine fs_aload_n (k := 0) (p := 1) (by decide +kernel) rfl rfl ?_
  refine fs_gfi (idx := 114) (ci := 10) (j := 5) (p := 4) (by decide +kernel) rfl (by decide +kernel) fo_215 ?_
  refine fs_istore_n (k := 1) (p := 5) (M := 5) (al' := [some (.ref 215), some (.int (σ.1 215 5)), none, none, none]) (by decide +kernel) rfl mx_146 rfl rfl ?_
  refine fs_aload_n (k := 0) (p := 6) (by decide +kernel) rfl rfl ?_
  obtain ⟨q61, w60, h⟩ := fx_bd h
  refine fs_callV (idx := 136) (mj := 137) (ci := 10) (na := 0) (mx := 1) (p := 9) (args := [.ref 215]) (rest := []) (al2 := [some (.ref 215)]) (by decide +kernel) rfl (by decide +kernel) fo_215 rfl rfl rfl rfl rfl rfl rfl (by omega) (fun d' hd' => fe_137 (by omega) w60) rfl ?_
  refine fs_bipush (n := 63) (p := 11) (by decide +kernel) rfl kb_63 ?_
  by_cases c63 : ¬ q61.1 = (63 : Int32)
  · rw [if_pos c63] at h
    refine fs_icmp_ne_t (off := 8) (t := 19) (by decide +kernel) (by decide +kernel) c63 ?_
    refine fs_aload_n (k := 0) (p := 20) (by decide +kernel) rfl rfl ?_
    obtain ⟨q65, w64, h⟩ := fx_bd h
    refine fs_callV (idx := 136) (mj := 137) (ci := 10) (na := 0) (mx := 1) (p := 23) (args := [.ref 215]) (rest := []) (al2 := [some (.ref 215)]) (by decide +kernel) rfl (by decide +kernel) fo_215 rfl rfl rfl rfl rfl rfl rfl (by omega) (fun d' hd' => fe_137 (by omega) w64) rfl ?_
    refine fs_i2l (p := 24) (by decide +kernel) rfl ?_
    refine fs_ldc2 (idx := 132) (p := 27) (x := 97) (by decide +kernel) rfl (by decide +kernel) ?_
    refine fs_ldc2 (idx := 134) (p := 30) (x := 104) (by decide +kernel) rfl (by decide +kernel) ?_
    obtain ⟨q68, w67, h⟩ := fx_bd h
    refine fs_callS (idx := 128) (mj := 130) (na := 3) (mx := 6) (p := 33) (args := [.long (q65.1).toInt64, .long (97 : Int64), .long (104 : Int64)]) (rest := []) (al2 := [some (.long (q65.1).toInt64), none, some (.long (97 : Int64)), none, some (.long (104 : Int64)), none]) (by decide +kernel) rfl (by decide +kernel) rfl rfl rfl rfl rfl rfl rfl (by omega) (fun d' hd' => fe_130 (by omega) w67) rfl ?_
    by_cases c69 : (fx_b q68.1) = 0
    · rw [if_pos c69] at h
      refine fs_if_eq_t (off := 13) (t := 46) (by decide +kernel) (by decide +kernel) c69 ?_
      refine fs_iconst (n := -1) (p := 47) (by decide +kernel) rfl kc_m1 ?_
      exact fe_146_47 hd _ _ _ _ h
    · rw [if_neg c69] at h
      refine fs_if_eq_f (off := 13) (t := 46) (p := 36) (by decide +kernel) (by decide +kernel) rfl c69 ?_
      refine fs_aload_n (k := 0) (p := 37) (by decide +kernel) rfl rfl ?_
      obtain ⟨q71, w70, h⟩ := fx_bd h
      refine fs_callV (idx := 136) (mj := 137) (ci := 10) (na := 0) (mx := 1) (p := 40) (args := [.ref 215]) (rest := []) (al2 := [some (.ref 215)]) (by decide +kernel) rfl (by decide +kernel) fo_215 rfl rfl rfl rfl rfl rfl rfl (by omega) (fun d' hd' => fe_137 (by omega) w70) rfl ?_
      refine fs_bipush (n := 97) (p := 42) (by decide +kernel) rfl kb_97 ?_
      refine fs_isub (p := 43) (by decide +kernel) rfl ?_
      refine fs_goto (off := 4) (p := 47) (by decide +kernel) (by decide +kernel) ?_
      exact fe_146_47 hd _ _ _ _ h
  · rw [if_neg c63] at h
    refine fs_icmp_ne_f (off := 8) (t := 19) (p := 14) (by decide +kernel) (by decide +kernel) rfl c63 ?_
    refine fs_bipush (n := 8) (p := 16) (by decide +kernel) rfl kb_8 ?_
    refine fs_goto (off := 31) (p := 47) (by decide +kernel) (by decide +kernel) ?_
    exact fe_146_47 hd _ _ _ _ h

/-! ZoneSharesModel.readsCounts()V -/
theorem mx_147 : iv_mx 147 = 2 := by decide +kernel
theorem rt_147 : iv_rt 147 = none := by decide +kernel
def fm_147_78 (k_49 : Int32 → fx_S → Option (fx_S)) (s0 : Int32) (σ : fx_S) : Option (fx_S) :=
  (fm_131 s0 σ).bind fun q2 =>
  k_49 s0 (fx_w1 q2.2 215 5 ((σ.1 215 5) + q2.1))
theorem fe_147_78 {d : Nat} (hd : 3 ≤ d) {k_49 : Int32 → fx_S → Option (fx_S)} (hk_49 : ∀ (x1 : Int32) (σ : fx_S) (q : fx_S), k_49 x1 σ = some q → fx_E none 147 d 49 [some (.ref 215), some (.int x1)] [] σ none q) (s0 : Int32) (o1 : Option Value) (σ : fx_S) (q : fx_S) (h : fm_147_78 k_49  s0 σ = some q) : fx_E none 147 d 78 [some (.ref 215), o1] [.int s0] σ none q := by
  unfold fm_147_78 at h
  refine fs_istore_n (k := 1) (p := 79) (M := 2) (al' := [some (.ref 215), some (.int s0)]) (by decide +kernel) rfl mx_147 rfl rfl ?_
  refine fs_aload_n (k := 0) (p := 80) (by decide +kernel) rfl rfl ?_
  refine fs_dup (p := 81) (by decide +kernel) rfl rfl ?_
  refine fs_gfi (idx := 114) (ci := 10) (j := 5) (p := 84) (by decide +kernel) rfl (by decide +kernel) fo_215 ?_
  refine fs_iload_n (k := 1) (p := 85) (by decide +kernel) rfl rfl ?_
  obtain ⟨q2, w1, h⟩ := fx_bd h
  refine fs_callS (idx := 186) (mj := 131) (na := 1) (mx := 1) (p := 88) (args := [.int s0]) (rest := [.int (σ.1 215 5), .ref 215]) (al2 := [some (.int s0)]) (by decide +kernel) rfl (by decide +kernel) rfl rfl rfl rfl rfl rfl rfl (by omega) (fun d' hd' => fe_131 (by omega) w1) rfl ?_
  refine fs_iadd (p := 89) (by decide +kernel) rfl ?_
  refine fs_pfi (idx := 114) (ci := 10) (j := 5) (p := 92) (by decide +kernel) rfl (by decide +kernel) (by decide +kernel) fo_215 (fx_oki _ (by decide +kernel)) ?_
  refine fs_goto (off := -43) (p := 49) (by decide +kernel) (by decide +kernel) ?_
  exact hk_49 _ _ _ h
def fm_147_49 : Nat → Int32 → fx_S → Option (fx_S)
  | 0, _, _ => none
  | n + 1, x1, σ =>
    if x1 = 0 then (
      (fm_138 σ).bind fun q4 =>
      if (fx_b q4.1) = 0 then (
        some q4.2) else (
        (fm_137 q4.2).bind fun q7 =>
        if q7.1 = (-1 : Int32) then (
          some q7.2) else (
          (fm_139 (1 : Int32) (q7.2.1 215 5) q7.2).bind fun q11 =>
          some q11))) else (
      (fm_146 σ).bind fun q13 =>
      (fm_138 q13).bind fun q15 =>
      if (fx_b q15.1) = 0 then (
        fm_147_78 (fm_147_49 n) (0 : Int32) q15.2) else (
        (fm_137 q15.2).bind fun q18 =>
        if ¬ q18.1 = (44 : Int32) then (
          fm_147_78 (fm_147_49 n) (0 : Int32) q18.2) else (
          fm_147_78 (fm_147_49 n) (1 : Int32) q18.2)))
theorem fe_147_49 {d : Nat} (hd : 3 ≤ d) : ∀ (n : Nat) (x1 : Int32) (σ : fx_S) (q : fx_S), fm_147_49 n x1 σ = some q → fx_E none 147 d 49 [some (.ref 215), some (.int x1)] [] σ none q := by
  intro n
  induction n with
  | zero =>
    intro x1 σ q  h
    rw [fm_147_49] at h
    exact fx_no h
  | succ n ih =>
    intro x1 σ q  h
    rw [fm_147_49] at h
    refine fs_iload_n (k := 1) (p := 50) (by decide +kernel) rfl rfl ?_
    by_cases c2 : x1 = 0
    · rw [if_pos c2] at h
      refine fs_if_eq_t (off := 45) (t := 95) (by decide +kernel) (by decide +kernel) c2 ?_
      refine fs_aload_n (k := 0) (p := 96) (by decide +kernel) rfl rfl ?_
      obtain ⟨q4, w3, h⟩ := fx_bd h
      refine fs_callV (idx := 120) (mj := 138) (ci := 10) (na := 0) (mx := 1) (p := 99) (args := [.ref 215]) (rest := []) (al2 := [some (.ref 215)]) (by decide +kernel) rfl (by decide +kernel) fo_215 rfl rfl rfl rfl rfl rfl rfl (by omega) (fun d' hd' => fe_138 (by omega) w3) rfl ?_
      by_cases c5 : (fx_b q4.1) = 0
      · rw [if_pos c5] at h
        refine fs_if_eq_t (off := 20) (t := 119) (by decide +kernel) (by decide +kernel) c5 ?_
        have h := Option.some.inj h
        subst h
        exact fs_ret (by decide +kernel) rt_147
      · rw [if_neg c5] at h
        refine fs_if_eq_f (off := 20) (t := 119) (p := 102) (by decide +kernel) (by decide +kernel) rfl c5 ?_
        refine fs_aload_n (k := 0) (p := 103) (by decide +kernel) rfl rfl ?_
        obtain ⟨q7, w6, h⟩ := fx_bd h
        refine fs_callV (idx := 136) (mj := 137) (ci := 10) (na := 0) (mx := 1) (p := 106) (args := [.ref 215]) (rest := []) (al2 := [some (.ref 215)]) (by decide +kernel) rfl (by decide +kernel) fo_215 rfl rfl rfl rfl rfl rfl rfl (by omega) (fun d' hd' => fe_137 (by omega) w6) rfl ?_
        refine fs_iconst (n := -1) (p := 107) (by decide +kernel) rfl kc_m1 ?_
        by_cases c9 : q7.1 = (-1 : Int32)
        · rw [if_pos c9] at h
          refine fs_icmp_eq_t (off := 12) (t := 119) (by decide +kernel) (by decide +kernel) c9 ?_
          have h := Option.some.inj h
          subst h
          exact fs_ret (by decide +kernel) rt_147
        · rw [if_neg c9] at h
          refine fs_icmp_eq_f (off := 12) (t := 119) (p := 110) (by decide +kernel) (by decide +kernel) rfl c9 ?_
          refine fs_aload_n (k := 0) (p := 111) (by decide +kernel) rfl rfl ?_
          refine fs_iconst (n := 1) (p := 112) (by decide +kernel) rfl kc_1 ?_
          refine fs_aload_n (k := 0) (p := 113) (by decide +kernel) rfl rfl ?_
          refine fs_gfi (idx := 114) (ci := 10) (j := 5) (p := 116) (by decide +kernel) rfl (by decide +kernel) fo_215 ?_
          obtain ⟨q11, w10, h⟩ := fx_bd h
          refine fs_callV (idx := 144) (mj := 139) (ci := 10) (na := 2) (mx := 3) (p := 119) (args := [.ref 215, .int (1 : Int32), .int (q7.2.1 215 5)]) (rest := []) (al2 := [some (.ref 215), some (.int (1 : Int32)), some (.int (q7.2.1 215 5))]) (by decide +kernel) rfl (by decide +kernel) fo_215 rfl rfl rfl rfl rfl rfl rfl (by omega) (fun d' hd' => fe_139 (by omega) w10) rfl ?_
          have h := Option.some.inj h
          subst h
          exact fs_ret (by decide +kernel) rt_147
    · rw [if_neg c2] at h
      refine fs_if_eq_f (off := 45) (t := 95) (p := 53) (by decide +kernel) (by decide +kernel) rfl c2 ?_
      refine fs_aload_n (k := 0) (p := 54) (by decide +kernel) rfl rfl ?_
      obtain ⟨q13, w12, h⟩ := fx_bd h
      refine fs_callV (idx := 183) (mj := 146) (ci := 10) (na := 0) (mx := 5) (p := 57) (args := [.ref 215]) (rest := []) (al2 := [some (.ref 215), none, none, none, none]) (by decide +kernel) rfl (by decide +kernel) fo_215 rfl rfl rfl rfl rfl rfl rfl (by omega) (fun d' hd' => fe_146 (by omega) w12) rfl ?_
      refine fs_aload_n (k := 0) (p := 58) (by decide +kernel) rfl rfl ?_
      obtain ⟨q15, w14, h⟩ := fx_bd h
      refine fs_callV (idx := 120) (mj := 138) (ci := 10) (na := 0) (mx := 1) (p := 61) (args := [.ref 215]) (rest := []) (al2 := [some (.ref 215)]) (by decide +kernel) rfl (by decide +kernel) fo_215 rfl rfl rfl rfl rfl rfl rfl (by omega) (fun d' hd' => fe_138 (by omega) w14) rfl ?_
      by_cases c16 : (fx_b q15.1) = 0
      · rw [if_pos c16] at h
        refine fs_if_eq_t (off := 16) (t := 77) (by decide +kernel) (by decide +kernel) c16 ?_
        refine fs_iconst (n := 0) (p := 78) (by decide +kernel) rfl kc_0 ?_
        exact fe_147_78 hd ih _ _ _ _ h
      · rw [if_neg c16] at h
        refine fs_if_eq_f (off := 16) (t := 77) (p := 64) (by decide +kernel) (by decide +kernel) rfl c16 ?_
        refine fs_aload_n (k := 0) (p := 65) (by decide +kernel) rfl rfl ?_
        obtain ⟨q18, w17, h⟩ := fx_bd h
        refine fs_callV (idx := 136) (mj := 137) (ci := 10) (na := 0) (mx := 1) (p := 68) (args := [.ref 215]) (rest := []) (al2 := [some (.ref 215)]) (by decide +kernel) rfl (by decide +kernel) fo_215 rfl rfl rfl rfl rfl rfl rfl (by omega) (fun d' hd' => fe_137 (by omega) w17) rfl ?_
        refine fs_bipush (n := 44) (p := 70) (by decide +kernel) rfl kb_44 ?_
        by_cases c20 : ¬ q18.1 = (44 : Int32)
        · rw [if_pos c20] at h
          refine fs_icmp_ne_t (off := 7) (t := 77) (by decide +kernel) (by decide +kernel) c20 ?_
          refine fs_iconst (n := 0) (p := 78) (by decide +kernel) rfl kc_0 ?_
          exact fe_147_78 hd ih _ _ _ _ h
        · rw [if_neg c20] at h
          refine fs_icmp_ne_f (off := 7) (t := 77) (p := 73) (by decide +kernel) (by decide +kernel) rfl c20 ?_
          refine fs_iconst (n := 1) (p := 74) (by decide +kernel) rfl kc_1 ?_
          refine fs_goto (off := 4) (p := 78) (by decide +kernel) (by decide +kernel) ?_
          exact fe_147_78 hd ih _ _ _ _ h
def fm_147_48 (s0 : Int32) (σ : fx_S) : Option (fx_S) :=
  fm_147_49 100000 s0 σ
theorem fe_147_48 {d : Nat} (hd : 3 ≤ d) (s0 : Int32) (o1 : Option Value) (σ : fx_S) (q : fx_S) (h : fm_147_48  s0 σ = some q) : fx_E none 147 d 48 [some (.ref 215), o1] [.int s0] σ none q := by
  unfold fm_147_48 at h
  refine fs_istore_n (k := 1) (p := 49) (M := 2) (al' := [some (.ref 215), some (.int s0)]) (by decide +kernel) rfl mx_147 rfl rfl ?_
  exact fe_147_49 hd 100000 _ _ _ h
def fm_147_17 : Nat → Int32 → fx_S → Option (fx_S)
  | 0, _, _ => none
  | n + 1, x1, σ =>
    if (9 : Int32) ≤ x1 then (
      if (σ.1 215 4) ≤ 0 then (
        fm_147_48 (0 : Int32) σ) else (
        fm_147_48 (1 : Int32) σ)) else (
      (fx_st σ 220 x1 (0 : Int32)).bind fun t5 =>
      fm_147_17 n (x1 + (1 : Int32)) t5)
theorem fe_147_17 {d : Nat} (hd : 3 ≤ d) : ∀ (n : Nat) (x1 : Int32) (σ : fx_S) (q : fx_S), fm_147_17 n x1 σ = some q → fx_E none 147 d 17 [some (.ref 215), some (.int x1)] [] σ none q := by
  intro n
  induction n with
  | zero =>
    intro x1 σ q  h
    rw [fm_147_17] at h
    exact fx_no h
  | succ n ih =>
    intro x1 σ q  h
    rw [fm_147_17] at h
    refine fs_iload_n (k := 1) (p := 18) (by decide +kernel) rfl rfl ?_
    refine fs_bipush (n := 9) (p := 20) (by decide +kernel) rfl kb_9 ?_
    by_cases c2 : (9 : Int32) ≤ x1
    · rw [if_pos c2] at h
      refine fs_icmp_ge_t (off := 16) (t := 36) (by decide +kernel) (by decide +kernel) c2 ?_
      refine fs_aload_n (k := 0) (p := 37) (by decide +kernel) rfl rfl ?_
      refine fs_gfi (idx := 107) (ci := 10) (j := 4) (p := 40) (by decide +kernel) rfl (by decide +kernel) fo_215 ?_
      by_cases c4 : (σ.1 215 4) ≤ 0
      · rw [if_pos c4] at h
        refine fs_if_le_t (off := 7) (t := 47) (by decide +kernel) (by decide +kernel) c4 ?_
        refine fs_iconst (n := 0) (p := 48) (by decide +kernel) rfl kc_0 ?_
        exact fe_147_48 hd _ _ _ _ h
      · rw [if_neg c4] at h
        refine fs_if_le_f (off := 7) (t := 47) (p := 43) (by decide +kernel) (by decide +kernel) rfl c4 ?_
        refine fs_iconst (n := 1) (p := 44) (by decide +kernel) rfl kc_1 ?_
        refine fs_goto (off := 4) (p := 48) (by decide +kernel) (by decide +kernel) ?_
        exact fe_147_48 hd _ _ _ _ h
    · rw [if_neg c2] at h
      refine fs_icmp_ge_f (off := 16) (t := 36) (p := 23) (by decide +kernel) (by decide +kernel) rfl c2 ?_
      refine fs_aload_n (k := 0) (p := 24) (by decide +kernel) rfl rfl ?_
      refine fs_gfr (idx := 23) (ci := 10) (j := 10) (p := 27) (by decide +kernel) rfl (by decide +kernel) fo_215 (fr_a215_10) ?_
      refine fs_iload_n (k := 1) (p := 28) (by decide +kernel) rfl rfl ?_
      refine fs_iconst (n := 0) (p := 29) (by decide +kernel) rfl kc_0 ?_
      obtain ⟨t5, w6, h⟩ := fx_bd h
      refine fs_iastore (p := 30) (by decide +kernel) rfl w6 ?_
      refine fs_iinc (k := 1) (n := 1) (p := 33) (M := 2) (al' := [some (.ref 215), some (.int (x1 + (1 : Int32)))]) (by decide +kernel) rfl kc_1 mx_147 rfl rfl rfl ?_
      refine fs_goto (off := -16) (p := 17) (by decide +kernel) (by decide +kernel) ?_
      exact ih _ _ _ h
def fm_147 (σ : fx_S) : Option (fx_S) :=
  fm_147_17 100000 (0 : Int32) (fx_w1 (fx_w1 (fx_w1 σ 215 5 (0 : Int32)) 215 6 (-1 : Int32)) 215 11 (0 : Int32))
theorem fe_147 {d : Nat} (hd : 3 ≤ d) {σ : fx_S} {q : fx_S} (h : fm_147 σ = some q) : fx_E none 147 d 0 [some (.ref 215), none] [] σ none q := by
  unfold fm_147 at h
  refine fs_aload_n (k := 0) (p := 1) (by decide +kernel) rfl rfl ?_
  refine fs_iconst (n := 0) (p := 2) (by decide +kernel) rfl kc_0 ?_
  refine fs_pfi (idx := 114) (ci := 10) (j := 5) (p := 5) (by decide +kernel) rfl (by decide +kernel) (by decide +kernel) fo_215 (fx_oki _ (by decide +kernel)) ?_
  refine fs_aload_n (k := 0) (p := 6) (by decide +kernel) rfl rfl ?_
  refine fs_iconst (n := -1) (p := 7) (by decide +kernel) rfl kc_m1 ?_
  refine fs_pfi (idx := 117) (ci := 10) (j := 6) (p := 10) (by decide +kernel) rfl (by decide +kernel) (by decide +kernel) fo_215 (fx_oki _ (by decide +kernel)) ?_
  refine fs_aload_n (k := 0) (p := 11) (by decide +kernel) rfl rfl ?_
  refine fs_iconst (n := 0) (p := 12) (by decide +kernel) rfl kc_0 ?_
  refine fs_pfi (idx := 173) (ci := 10) (j := 11) (p := 15) (by decide +kernel) rfl (by decide +kernel) (by decide +kernel) fo_215 (fx_oki _ (by decide +kernel)) ?_
  refine fs_iconst (n := 0) (p := 16) (by decide +kernel) rfl kc_0 ?_
  refine fs_istore_n (k := 1) (p := 17) (M := 2) (al' := [some (.ref 215), some (.int (0 : Int32))]) (by decide +kernel) rfl mx_147 rfl rfl ?_
  exact fe_147_17 hd 100000 _ _ _ h

/-! ZoneSharesModel.isGroup(I)Z -/
theorem mx_148 : iv_mx 148 = 1 := by decide +kernel
theorem rt_148 : iv_rt 148 = some .boolean := by decide +kernel
def fm_148 (x0 : Int32) (σ : fx_S) : Option (Bool × fx_S) :=
  (fm_130 (x0).toInt64 (0 : Int64) (2 : Int64) σ).bind fun q6 =>
  some (q6.1, q6.2)
theorem fe_148 {d : Nat} (hd : 1 ≤ d) {x0 : Int32} {σ : fx_S} {q : Bool × fx_S} (h : fm_148 x0 σ = some q) : fx_E none 148 d 0 [some (.int x0)] [] σ (some (.int (fx_b q.1))) q.2 := by
  unfold fm_148 at h
  refine fs_iload_n (k := 0) (p := 1) (by decide +kernel) rfl rfl ?_
  refine fs_i2l (p := 2) (by decide +kernel) rfl ?_
  refine fs_lconst (n := 0) (p := 3) (by decide +kernel) rfl kl_0 ?_
  refine fs_ldc2 (idx := 161) (p := 6) (x := 2) (by decide +kernel) rfl (by decide +kernel) ?_
  obtain ⟨q6, w5, h⟩ := fx_bd h
  refine fs_callS (idx := 128) (mj := 130) (na := 3) (mx := 6) (p := 9) (args := [.long (x0).toInt64, .long (0 : Int64), .long (2 : Int64)]) (rest := []) (al2 := [some (.long (x0).toInt64), none, some (.long (0 : Int64)), none, some (.long (2 : Int64)), none]) (by decide +kernel) rfl (by decide +kernel) rfl rfl rfl rfl rfl rfl rfl (by omega) (fun d' hd' => fe_130 (by omega) w5) rfl ?_
  have h := Option.some.inj h
  subst h
  exact fs_zret (b := q6.1) (by decide +kernel) rt_148

/-! ZoneSharesModel.counts(I)I -/
theorem mx_149 : iv_mx 149 = 4 := by decide +kernel
theorem rt_149 : iv_rt 149 = some .int := by decide +kernel
def fm_149_41 : Nat → Int32 → Int32 → Int32 → fx_S → Option (Int32 × fx_S)
  | 0, _, _, _, _ => none
  | n + 1, x1, x2, x3, σ =>
    if (9 : Int32) ≤ x3 then (
      some (x2, σ)) else (
      (fx_ld σ 220 x3).bind fun v3 =>
      (fx_st σ 216 (((5 : Int32) + ((9 : Int32) * x1)) + x3) v3).bind fun t6 =>
      (fx_ld t6 220 x3).bind fun v9 =>
      fm_149_41 n x1 (x2 + v9) (x3 + (1 : Int32)) t6)
theorem fe_149_41 {d : Nat} (hd : 4 ≤ d) : ∀ (n : Nat) (x1 : Int32) (x2 : Int32) (x3 : Int32) (σ : fx_S) (q : Int32 × fx_S), fm_149_41 n x1 x2 x3 σ = some q → fx_E none 149 d 41 [some (.ref 215), some (.int x1), some (.int x2), some (.int x3)] [] σ (some (.int q.1)) q.2 := by
  intro n
  induction n with
  | zero =>
    intro x1 x2 x3 σ q  h
    rw [fm_149_41] at h
    exact fx_no h
  | succ n ih =>
    intro x1 x2 x3 σ q  h
    rw [fm_149_41] at h
    refine fs_iload_n (k := 3) (p := 42) (by decide +kernel) rfl rfl ?_
    refine fs_bipush (n := 9) (p := 44) (by decide +kernel) rfl kb_9 ?_
    by_cases c2 : (9 : Int32) ≤ x3
    · rw [if_pos c2] at h
      refine fs_icmp_ge_t (off := 37) (t := 81) (by decide +kernel) (by decide +kernel) c2 ?_
      refine fs_iload_n (k := 2) (p := 82) (by decide +kernel) rfl rfl ?_
      have h := Option.some.inj h
      subst h
      exact fs_iret (by decide +kernel) rt_149
    · rw [if_neg c2] at h
      refine fs_icmp_ge_f (off := 37) (t := 81) (p := 47) (by decide +kernel) (by decide +kernel) rfl c2 ?_
      refine fs_aload_n (k := 0) (p := 48) (by decide +kernel) rfl rfl ?_
      refine fs_gfr (idx := 9) (ci := 10) (j := 0) (p := 51) (by decide +kernel) rfl (by decide +kernel) fo_215 (fr_a215_0) ?_
      refine fs_iconst (n := 5) (p := 52) (by decide +kernel) rfl kc_5 ?_
      refine fs_bipush (n := 9) (p := 54) (by decide +kernel) rfl kb_9 ?_
      refine fs_iload_n (k := 1) (p := 55) (by decide +kernel) rfl rfl ?_
      refine fs_imul (p := 56) (by decide +kernel) rfl ?_
      refine fs_iadd (p := 57) (by decide +kernel) rfl ?_
      refine fs_iload_n (k := 3) (p := 58) (by decide +kernel) rfl rfl ?_
      refine fs_iadd (p := 59) (by decide +kernel) rfl ?_
      refine fs_aload_n (k := 0) (p := 60) (by decide +kernel) rfl rfl ?_
      refine fs_gfr (idx := 23) (ci := 10) (j := 10) (p := 63) (by decide +kernel) rfl (by decide +kernel) fo_215 (fr_a215_10) ?_
      refine fs_iload_n (k := 3) (p := 64) (by decide +kernel) rfl rfl ?_
      obtain ⟨v3, w4, h⟩ := fx_bd h
      refine fs_iaload (p := 65) (by decide +kernel) rfl w4 ?_
      obtain ⟨t6, w7, h⟩ := fx_bd h
      refine fs_iastore (p := 66) (by decide +kernel) rfl w7 ?_
      refine fs_iload_n (k := 2) (p := 67) (by decide +kernel) rfl rfl ?_
      refine fs_aload_n (k := 0) (p := 68) (by decide +kernel) rfl rfl ?_
      refine fs_gfr (idx := 23) (ci := 10) (j := 10) (p := 71) (by decide +kernel) rfl (by decide +kernel) fo_215 (fr_a215_10) ?_
      refine fs_iload_n (k := 3) (p := 72) (by decide +kernel) rfl rfl ?_
      obtain ⟨v9, w10, h⟩ := fx_bd h
      refine fs_iaload (p := 73) (by decide +kernel) rfl w10 ?_
      refine fs_iadd (p := 74) (by decide +kernel) rfl ?_
      refine fs_istore_n (k := 2) (p := 75) (M := 4) (al' := [some (.ref 215), some (.int x1), some (.int (x2 + v9)), some (.int x3)]) (by decide +kernel) rfl mx_149 rfl rfl ?_
      refine fs_iinc (k := 3) (n := 1) (p := 78) (M := 4) (al' := [some (.ref 215), some (.int x1), some (.int (x2 + v9)), some (.int (x3 + (1 : Int32)))]) (by decide +kernel) rfl kc_1 mx_149 rfl rfl rfl ?_
      refine fs_goto (off := -37) (p := 41) (by decide +kernel) (by decide +kernel) ?_
      exact ih _ _ _ _ _ h
def fm_149 (x1 : Int32) (σ : fx_S) : Option (Int32 × fx_S) :=
  (fm_148 x1 σ).bind fun q22 =>
  if ¬ (fx_b q22.1) = 0 then (
    (fm_147 q22.2).bind fun q25 =>
    (fm_138 (fx_w1 q25 215 4 (0 : Int32))).bind fun q27 =>
    if ¬ (fx_b q27.1) = 0 then (
      (fm_132 q27.2).bind fun q30 =>
      fm_149_41 100000 x1 (0 : Int32) (0 : Int32) q30) else (
      some (((-2 : Int32) - (q27.2.1 215 6)), q27.2))) else (
    some ((-1 : Int32), q22.2))
theorem fe_149 {d : Nat} (hd : 4 ≤ d) {x1 : Int32} {σ : fx_S} {q : Int32 × fx_S} (h : fm_149 x1 σ = some q) : fx_E none 149 d 0 [some (.ref 215), some (.int x1), none, none] [] σ (some (.int q.1)) q.2 := by
  unfold fm_149 at h
  refine fs_iload_n (k := 1) (p := 1) (by decide +kernel) rfl rfl ?_
  obtain ⟨q22, w21, h⟩ := fx_bd h
  refine fs_callS (idx := 190) (mj := 148) (na := 1) (mx := 1) (p := 4) (args := [.int x1]) (rest := []) (al2 := [some (.int x1)]) (by decide +kernel) rfl (by decide +kernel) rfl rfl rfl rfl rfl rfl rfl (by omega) (fun d' hd' => fe_148 (by omega) w21) rfl ?_
  by_cases c23 : ¬ (fx_b q22.1) = 0
  · rw [if_pos c23] at h
    refine fs_if_ne_t (off := 5) (t := 9) (by decide +kernel) (by decide +kernel) c23 ?_
    refine fs_aload_n (k := 0) (p := 10) (by decide +kernel) rfl rfl ?_
    obtain ⟨q25, w24, h⟩ := fx_bd h
    refine fs_callV (idx := 193) (mj := 147) (ci := 10) (na := 0) (mx := 2) (p := 13) (args := [.ref 215]) (rest := []) (al2 := [some (.ref 215), none]) (by decide +kernel) rfl (by decide +kernel) fo_215 rfl rfl rfl rfl rfl rfl rfl (by omega) (fun d' hd' => fe_147 (by omega) w24) rfl ?_
    refine fs_aload_n (k := 0) (p := 14) (by decide +kernel) rfl rfl ?_
    refine fs_iconst (n := 0) (p := 15) (by decide +kernel) rfl kc_0 ?_
    refine fs_pfi (idx := 107) (ci := 10) (j := 4) (p := 18) (by decide +kernel) rfl (by decide +kernel) (by decide +kernel) fo_215 (fx_oki _ (by decide +kernel)) ?_
    refine fs_aload_n (k := 0) (p := 19) (by decide +kernel) rfl rfl ?_
    obtain ⟨q27, w26, h⟩ := fx_bd h
    refine fs_callV (idx := 120) (mj := 138) (ci := 10) (na := 0) (mx := 1) (p := 22) (args := [.ref 215]) (rest := []) (al2 := [some (.ref 215)]) (by decide +kernel) rfl (by decide +kernel) fo_215 rfl rfl rfl rfl rfl rfl rfl (by omega) (fun d' hd' => fe_138 (by omega) w26) rfl ?_
    by_cases c28 : ¬ (fx_b q27.1) = 0
    · rw [if_pos c28] at h
      refine fs_if_ne_t (off := 11) (t := 33) (by decide +kernel) (by decide +kernel) c28 ?_
      refine fs_aload_n (k := 0) (p := 34) (by decide +kernel) rfl rfl ?_
      obtain ⟨q30, w29, h⟩ := fx_bd h
      refine fs_callV (idx := 170) (mj := 132) (ci := 10) (na := 0) (mx := 2) (p := 37) (args := [.ref 215]) (rest := []) (al2 := [some (.ref 215), none]) (by decide +kernel) rfl (by decide +kernel) fo_215 rfl rfl rfl rfl rfl rfl rfl (by omega) (fun d' hd' => fe_132 (by omega) w29) rfl ?_
      refine fs_iconst (n := 0) (p := 38) (by decide +kernel) rfl kc_0 ?_
      refine fs_istore_n (k := 2) (p := 39) (M := 4) (al' := [some (.ref 215), some (.int x1), some (.int (0 : Int32)), none]) (by decide +kernel) rfl mx_149 rfl rfl ?_
      refine fs_iconst (n := 0) (p := 40) (by decide +kernel) rfl kc_0 ?_
      refine fs_istore_n (k := 3) (p := 41) (M := 4) (al' := [some (.ref 215), some (.int x1), some (.int (0 : Int32)), some (.int (0 : Int32))]) (by decide +kernel) rfl mx_149 rfl rfl ?_
      exact fe_149_41 hd 100000 _ _ _ _ _ h
    · rw [if_neg c28] at h
      refine fs_if_ne_f (off := 11) (t := 33) (p := 25) (by decide +kernel) (by decide +kernel) rfl c28 ?_
      refine fs_bipush (n := -2) (p := 27) (by decide +kernel) rfl kb_m2 ?_
      refine fs_aload_n (k := 0) (p := 28) (by decide +kernel) rfl rfl ?_
      refine fs_gfi (idx := 117) (ci := 10) (j := 6) (p := 31) (by decide +kernel) rfl (by decide +kernel) fo_215 ?_
      refine fs_isub (p := 32) (by decide +kernel) rfl ?_
      have h := Option.some.inj h
      subst h
      exact fs_iret (by decide +kernel) rt_149
  · rw [if_neg c23] at h
    refine fs_if_ne_f (off := 5) (t := 9) (p := 7) (by decide +kernel) (by decide +kernel) rfl c23 ?_
    refine fs_iconst (n := -1) (p := 8) (by decide +kernel) rfl kc_m1 ?_
    have h := Option.some.inj h
    subst h
    exact fs_iret (by decide +kernel) rt_149

/-! ZoneSharesModel.isWhole()Z -/
theorem mx_150 : iv_mx 150 = 1 := by decide +kernel
theorem rt_150 : iv_rt 150 = some .boolean := by decide +kernel
def fm_150 (σ : fx_S) : Option (Bool × fx_S) :=
  (fx_ld σ 216 (2 : Int32)).bind fun v5 =>
  if ¬ v5 = (7 : Int32) then (
    some (false, σ)) else (
    some (true, σ))
theorem fe_150 {d : Nat} (hd : 0 ≤ d) {σ : fx_S} {q : Bool × fx_S} (h : fm_150 σ = some q) : fx_E none 150 d 0 [some (.ref 215)] [] σ (some (.int (fx_b q.1))) q.2 := by
  unfold fm_150 at h
  refine fs_aload_n (k := 0) (p := 1) (by decide +kernel) rfl rfl ?_
  refine fs_gfr (idx := 9) (ci := 10) (j := 0) (p := 4) (by decide +kernel) rfl (by decide +kernel) fo_215 (fr_a215_0) ?_
  refine fs_iconst (n := 2) (p := 5) (by decide +kernel) rfl kc_2 ?_
  obtain ⟨v5, w6, h⟩ := fx_bd h
  refine fs_iaload (p := 6) (by decide +kernel) rfl w6 ?_
  refine fs_bipush (n := 7) (p := 8) (by decide +kernel) rfl kb_7 ?_
  by_cases c8 : ¬ v5 = (7 : Int32)
  · rw [if_pos c8] at h
    refine fs_icmp_ne_t (off := 7) (t := 15) (by decide +kernel) (by decide +kernel) c8 ?_
    refine fs_iconst (n := 0) (p := 16) (by decide +kernel) rfl kc_0 ?_
    have h := Option.some.inj h
    subst h
    exact fs_zret (b := false) (by decide +kernel) rt_150
  · rw [if_neg c8] at h
    refine fs_icmp_ne_f (off := 7) (t := 15) (p := 11) (by decide +kernel) (by decide +kernel) rfl c8 ?_
    refine fs_iconst (n := 1) (p := 12) (by decide +kernel) rfl kc_1 ?_
    refine fs_goto (off := 4) (p := 16) (by decide +kernel) (by decide +kernel) ?_
    have h := Option.some.inj h
    subst h
    exact fs_zret (b := true) (by decide +kernel) rt_150

/-! ZoneSharesModel.cellMany()I -/
theorem mx_151 : iv_mx 151 = 1 := by decide +kernel
theorem rt_151 : iv_rt 151 = some .int := by decide +kernel
def fm_151 (σ : fx_S) : Option (Int32 × fx_S) :=
  (fx_ld σ 216 (0 : Int32)).bind fun v5 =>
  (fx_ld σ 216 (1 : Int32)).bind fun v7 =>
  some ((v5 * v7), σ)
theorem fe_151 {d : Nat} (hd : 0 ≤ d) {σ : fx_S} {q : Int32 × fx_S} (h : fm_151 σ = some q) : fx_E none 151 d 0 [some (.ref 215)] [] σ (some (.int q.1)) q.2 := by
  unfold fm_151 at h
  refine fs_aload_n (k := 0) (p := 1) (by decide +kernel) rfl rfl ?_
  refine fs_gfr (idx := 9) (ci := 10) (j := 0) (p := 4) (by decide +kernel) rfl (by decide +kernel) fo_215 (fr_a215_0) ?_
  refine fs_iconst (n := 0) (p := 5) (by decide +kernel) rfl kc_0 ?_
  obtain ⟨v5, w6, h⟩ := fx_bd h
  refine fs_iaload (p := 6) (by decide +kernel) rfl w6 ?_
  refine fs_aload_n (k := 0) (p := 7) (by decide +kernel) rfl rfl ?_
  refine fs_gfr (idx := 9) (ci := 10) (j := 0) (p := 10) (by decide +kernel) rfl (by decide +kernel) fo_215 (fr_a215_0) ?_
  refine fs_iconst (n := 1) (p := 11) (by decide +kernel) rfl kc_1 ?_
  obtain ⟨v7, w8, h⟩ := fx_bd h
  refine fs_iaload (p := 12) (by decide +kernel) rfl w8 ?_
  refine fs_imul (p := 13) (by decide +kernel) rfl ?_
  have h := Option.some.inj h
  subst h
  exact fs_iret (by decide +kernel) rt_151

/-! ZoneSharesModel.codeAt(II)I -/
theorem mx_152 : iv_mx 152 = 3 := by decide +kernel
theorem rt_152 : iv_rt 152 = some .int := by decide +kernel
def fm_152 (x1 : Int32) (x2 : Int32) (σ : fx_S) : Option (Int32 × fx_S) :=
  (fx_ld σ 216 (1 : Int32)).bind fun v11 =>
  if ¬ v11 = 0 then (
  (fx_ld σ 216 (1 : Int32)).bind fun v15 =>
  if ¬ v15 = 0 then (
  (fx_ld σ 216 ((((52 : Int32) + ((96 : Int32) * x1)) + ((12 : Int32) * (x2 / v11))) + (x2 - x2 / v15 * v15))).bind fun v18 =>
  some (v18, σ)) else none) else none
theorem fe_152 {d : Nat} (hd : 0 ≤ d) {x1 : Int32} {x2 : Int32} {σ : fx_S} {q : Int32 × fx_S} (h : fm_152 x1 x2 σ = some q) : fx_E none 152 d 0 [some (.ref 215), some (.int x1), some (.int x2)] [] σ (some (.int q.1)) q.2 := by
  unfold fm_152 at h
  refine fs_aload_n (k := 0) (p := 1) (by decide +kernel) rfl rfl ?_
  refine fs_gfr (idx := 9) (ci := 10) (j := 0) (p := 4) (by decide +kernel) rfl (by decide +kernel) fo_215 (fr_a215_0) ?_
  refine fs_bipush (n := 52) (p := 6) (by decide +kernel) rfl kb_52 ?_
  refine fs_bipush (n := 96) (p := 8) (by decide +kernel) rfl kb_96 ?_
  refine fs_iload_n (k := 1) (p := 9) (by decide +kernel) rfl rfl ?_
  refine fs_imul (p := 10) (by decide +kernel) rfl ?_
  refine fs_iadd (p := 11) (by decide +kernel) rfl ?_
  refine fs_bipush (n := 12) (p := 13) (by decide +kernel) rfl kb_12 ?_
  refine fs_iload_n (k := 2) (p := 14) (by decide +kernel) rfl rfl ?_
  refine fs_aload_n (k := 0) (p := 15) (by decide +kernel) rfl rfl ?_
  refine fs_gfr (idx := 9) (ci := 10) (j := 0) (p := 18) (by decide +kernel) rfl (by decide +kernel) fo_215 (fr_a215_0) ?_
  refine fs_iconst (n := 1) (p := 19) (by decide +kernel) rfl kc_1 ?_
  obtain ⟨v11, w12, h⟩ := fx_bd h
  refine fs_iaload (p := 20) (by decide +kernel) rfl w12 ?_
  obtain ⟨z14, h⟩ := fx_gd h
  refine fs_idiv (p := 21) (by decide +kernel) rfl z14 ?_
  refine fs_imul (p := 22) (by decide +kernel) rfl ?_
  refine fs_iadd (p := 23) (by decide +kernel) rfl ?_
  refine fs_iload_n (k := 2) (p := 24) (by decide +kernel) rfl rfl ?_
  refine fs_aload_n (k := 0) (p := 25) (by decide +kernel) rfl rfl ?_
  refine fs_gfr (idx := 9) (ci := 10) (j := 0) (p := 28) (by decide +kernel) rfl (by decide +kernel) fo_215 (fr_a215_0) ?_
  refine fs_iconst (n := 1) (p := 29) (by decide +kernel) rfl kc_1 ?_
  obtain ⟨v15, w16, h⟩ := fx_bd h
  refine fs_iaload (p := 30) (by decide +kernel) rfl w16 ?_
  obtain ⟨z17, h⟩ := fx_gd h
  refine fs_irem (p := 31) (by decide +kernel) rfl z17 ?_
  refine fs_iadd (p := 32) (by decide +kernel) rfl ?_
  obtain ⟨v18, w19, h⟩ := fx_bd h
  refine fs_iaload (p := 33) (by decide +kernel) rfl w19 ?_
  have h := Option.some.inj h
  subst h
  exact fs_iret (by decide +kernel) rt_152

/-! ZoneSharesModel.hasZone(II)Z -/
theorem mx_153 : iv_mx 153 = 4 := by decide +kernel
theorem rt_153 : iv_rt 153 = some .boolean := by decide +kernel
def fm_153_2 : Nat → Int32 → Int32 → Int32 → fx_S → Option (Bool × fx_S)
  | 0, _, _, _, _ => none
  | n + 1, x1, x2, x3, σ =>
    (fm_151 σ).bind fun q2 =>
    if q2.1 ≤ x3 then (
      some (false, q2.2)) else (
      (fm_144 x1 q2.2).bind fun q7 =>
      if (fx_b q7.1) = 0 then (
        some (false, q7.2)) else (
        (fm_152 x1 x3 q7.2).bind fun q10 =>
        if ¬ q10.1 = x2 then (
          fm_153_2 n x1 x2 (x3 + (1 : Int32)) q10.2) else (
          some (true, q10.2))))
theorem fe_153_2 {d : Nat} (hd : 1 ≤ d) : ∀ (n : Nat) (x1 : Int32) (x2 : Int32) (x3 : Int32) (σ : fx_S) (q : Bool × fx_S), fm_153_2 n x1 x2 x3 σ = some q → fx_E none 153 d 2 [some (.ref 215), some (.int x1), some (.int x2), some (.int x3)] [] σ (some (.int (fx_b q.1))) q.2 := by
  intro n
  induction n with
  | zero =>
    intro x1 x2 x3 σ q  h
    rw [fm_153_2] at h
    exact fx_no h
  | succ n ih =>
    intro x1 x2 x3 σ q  h
    rw [fm_153_2] at h
    refine fs_iload_n (k := 3) (p := 3) (by decide +kernel) rfl rfl ?_
    refine fs_aload_n (k := 0) (p := 4) (by decide +kernel) rfl rfl ?_
    obtain ⟨q2, w1, h⟩ := fx_bd h
    refine fs_callV (idx := 196) (mj := 151) (ci := 10) (na := 0) (mx := 1) (p := 7) (args := [.ref 215]) (rest := [.int x3]) (al2 := [some (.ref 215)]) (by decide +kernel) rfl (by decide +kernel) fo_215 rfl rfl rfl rfl rfl rfl rfl (by omega) (fun d' hd' => fe_151 (by omega) w1) rfl ?_
    by_cases c5 : q2.1 ≤ x3
    · rw [if_pos c5] at h
      refine fs_icmp_ge_t (off := 29) (t := 36) (by decide +kernel) (by decide +kernel) c5 ?_
      refine fs_iconst (n := 0) (p := 37) (by decide +kernel) rfl kc_0 ?_
      have h := Option.some.inj h
      subst h
      exact fs_zret (b := false) (by decide +kernel) rt_153
    · rw [if_neg c5] at h
      refine fs_icmp_ge_f (off := 29) (t := 36) (p := 10) (by decide +kernel) (by decide +kernel) rfl c5 ?_
      refine fs_aload_n (k := 0) (p := 11) (by decide +kernel) rfl rfl ?_
      refine fs_iload_n (k := 1) (p := 12) (by decide +kernel) rfl rfl ?_
      obtain ⟨q7, w6, h⟩ := fx_bd h
      refine fs_callV (idx := 163) (mj := 144) (ci := 10) (na := 1) (mx := 2) (p := 15) (args := [.ref 215, .int x1]) (rest := []) (al2 := [some (.ref 215), some (.int x1)]) (by decide +kernel) rfl (by decide +kernel) fo_215 rfl rfl rfl rfl rfl rfl rfl (by omega) (fun d' hd' => fe_144 (by omega) w6) rfl ?_
      by_cases c8 : (fx_b q7.1) = 0
      · rw [if_pos c8] at h
        refine fs_if_eq_t (off := 21) (t := 36) (by decide +kernel) (by decide +kernel) c8 ?_
        refine fs_iconst (n := 0) (p := 37) (by decide +kernel) rfl kc_0 ?_
        have h := Option.some.inj h
        subst h
        exact fs_zret (b := false) (by decide +kernel) rt_153
      · rw [if_neg c8] at h
        refine fs_if_eq_f (off := 21) (t := 36) (p := 18) (by decide +kernel) (by decide +kernel) rfl c8 ?_
        refine fs_aload_n (k := 0) (p := 19) (by decide +kernel) rfl rfl ?_
        refine fs_iload_n (k := 1) (p := 20) (by decide +kernel) rfl rfl ?_
        refine fs_iload_n (k := 3) (p := 21) (by decide +kernel) rfl rfl ?_
        obtain ⟨q10, w9, h⟩ := fx_bd h
        refine fs_callV (idx := 199) (mj := 152) (ci := 10) (na := 2) (mx := 3) (p := 24) (args := [.ref 215, .int x1, .int x3]) (rest := []) (al2 := [some (.ref 215), some (.int x1), some (.int x3)]) (by decide +kernel) rfl (by decide +kernel) fo_215 rfl rfl rfl rfl rfl rfl rfl (by omega) (fun d' hd' => fe_152 (by omega) w9) rfl ?_
        refine fs_iload_n (k := 2) (p := 25) (by decide +kernel) rfl rfl ?_
        by_cases c13 : ¬ q10.1 = x2
        · rw [if_pos c13] at h
          refine fs_icmp_ne_t (off := 5) (t := 30) (by decide +kernel) (by decide +kernel) c13 ?_
          refine fs_iinc (k := 3) (n := 1) (p := 33) (M := 4) (al' := [some (.ref 215), some (.int x1), some (.int x2), some (.int (x3 + (1 : Int32)))]) (by decide +kernel) rfl kc_1 mx_153 rfl rfl rfl ?_
          refine fs_goto (off := -31) (p := 2) (by decide +kernel) (by decide +kernel) ?_
          exact ih _ _ _ _ _ h
        · rw [if_neg c13] at h
          refine fs_icmp_ne_f (off := 5) (t := 30) (p := 28) (by decide +kernel) (by decide +kernel) rfl c13 ?_
          refine fs_iconst (n := 1) (p := 29) (by decide +kernel) rfl kc_1 ?_
          have h := Option.some.inj h
          subst h
          exact fs_zret (b := true) (by decide +kernel) rt_153
def fm_153 (x1 : Int32) (x2 : Int32) (σ : fx_S) : Option (Bool × fx_S) :=
  fm_153_2 100000 x1 x2 (0 : Int32) σ
theorem fe_153 {d : Nat} (hd : 1 ≤ d) {x1 : Int32} {x2 : Int32} {σ : fx_S} {q : Bool × fx_S} (h : fm_153 x1 x2 σ = some q) : fx_E none 153 d 0 [some (.ref 215), some (.int x1), some (.int x2), none] [] σ (some (.int (fx_b q.1))) q.2 := by
  unfold fm_153 at h
  refine fs_iconst (n := 0) (p := 1) (by decide +kernel) rfl kc_0 ?_
  refine fs_istore_n (k := 3) (p := 2) (M := 4) (al' := [some (.ref 215), some (.int x1), some (.int x2), some (.int (0 : Int32))]) (by decide +kernel) rfl mx_153 rfl rfl ?_
  exact fe_153_2 hd 100000 _ _ _ _ _ h

/-! ZoneSharesModel.codeMany(II)I -/
theorem mx_154 : iv_mx 154 = 5 := by decide +kernel
theorem rt_154 : iv_rt 154 = some .int := by decide +kernel
def fm_154_5 : Nat → Int32 → Int32 → Int32 → Int32 → fx_S → Option (Int32 × fx_S)
  | 0, _, _, _, _, _ => none
  | n + 1, x1, x2, x3, x4, σ =>
    if x2 ≤ x4 then (
      some (x3, σ)) else (
      (fm_153 x1 x4 σ).bind fun q5 =>
      (fm_131 (fx_b q5.1) q5.2).bind fun q7 =>
      fm_154_5 n x1 x2 (x3 + q7.1) (x4 + (1 : Int32)) q7.2)
theorem fe_154_5 {d : Nat} (hd : 2 ≤ d) : ∀ (n : Nat) (x1 : Int32) (x2 : Int32) (x3 : Int32) (x4 : Int32) (σ : fx_S) (q : Int32 × fx_S), fm_154_5 n x1 x2 x3 x4 σ = some q → fx_E none 154 d 5 [some (.ref 215), some (.int x1), some (.int x2), some (.int x3), some (.int x4)] [] σ (some (.int q.1)) q.2 := by
  intro n
  induction n with
  | zero =>
    intro x1 x2 x3 x4 σ q  h
    rw [fm_154_5] at h
    exact fx_no h
  | succ n ih =>
    intro x1 x2 x3 x4 σ q  h
    rw [fm_154_5] at h
    refine fs_iload (k := 4) (p := 7) (by decide +kernel) rfl rfl ?_
    refine fs_iload_n (k := 2) (p := 8) (by decide +kernel) rfl rfl ?_
    by_cases c3 : x2 ≤ x4
    · rw [if_pos c3] at h
      refine fs_icmp_ge_t (off := 22) (t := 30) (by decide +kernel) (by decide +kernel) c3 ?_
      refine fs_iload_n (k := 3) (p := 31) (by decide +kernel) rfl rfl ?_
      have h := Option.some.inj h
      subst h
      exact fs_iret (by decide +kernel) rt_154
    · rw [if_neg c3] at h
      refine fs_icmp_ge_f (off := 22) (t := 30) (p := 11) (by decide +kernel) (by decide +kernel) rfl c3 ?_
      refine fs_iload_n (k := 3) (p := 12) (by decide +kernel) rfl rfl ?_
      refine fs_aload_n (k := 0) (p := 13) (by decide +kernel) rfl rfl ?_
      refine fs_iload_n (k := 1) (p := 14) (by decide +kernel) rfl rfl ?_
      refine fs_iload (k := 4) (p := 16) (by decide +kernel) rfl rfl ?_
      obtain ⟨q5, w4, h⟩ := fx_bd h
      refine fs_callV (idx := 202) (mj := 153) (ci := 10) (na := 2) (mx := 4) (p := 19) (args := [.ref 215, .int x1, .int x4]) (rest := [.int x3]) (al2 := [some (.ref 215), some (.int x1), some (.int x4), none]) (by decide +kernel) rfl (by decide +kernel) fo_215 rfl rfl rfl rfl rfl rfl rfl (by omega) (fun d' hd' => fe_153 (by omega) w4) rfl ?_
      obtain ⟨q7, w6, h⟩ := fx_bd h
      refine fs_callS (idx := 186) (mj := 131) (na := 1) (mx := 1) (p := 22) (args := [.int (fx_b q5.1)]) (rest := [.int x3]) (al2 := [some (.int (fx_b q5.1))]) (by decide +kernel) rfl (by decide +kernel) rfl rfl rfl rfl rfl rfl rfl (by omega) (fun d' hd' => fe_131 (by omega) w6) rfl ?_
      refine fs_iadd (p := 23) (by decide +kernel) rfl ?_
      refine fs_istore_n (k := 3) (p := 24) (M := 5) (al' := [some (.ref 215), some (.int x1), some (.int x2), some (.int (x3 + q7.1)), some (.int x4)]) (by decide +kernel) rfl mx_154 rfl rfl ?_
      refine fs_iinc (k := 4) (n := 1) (p := 27) (M := 5) (al' := [some (.ref 215), some (.int x1), some (.int x2), some (.int (x3 + q7.1)), some (.int (x4 + (1 : Int32)))]) (by decide +kernel) rfl kc_1 mx_154 rfl rfl rfl ?_
      refine fs_goto (off := -22) (p := 5) (by decide +kernel) (by decide +kernel) ?_
      exact ih _ _ _ _ _ _ h
def fm_154 (x1 : Int32) (x2 : Int32) (σ : fx_S) : Option (Int32 × fx_S) :=
  fm_154_5 100000 x1 x2 (0 : Int32) (0 : Int32) σ
theorem fe_154 {d : Nat} (hd : 2 ≤ d) {x1 : Int32} {x2 : Int32} {σ : fx_S} {q : Int32 × fx_S} (h : fm_154 x1 x2 σ = some q) : fx_E none 154 d 0 [some (.ref 215), some (.int x1), some (.int x2), none, none] [] σ (some (.int q.1)) q.2 := by
  unfold fm_154 at h
  refine fs_iconst (n := 0) (p := 1) (by decide +kernel) rfl kc_0 ?_
  refine fs_istore_n (k := 3) (p := 2) (M := 5) (al' := [some (.ref 215), some (.int x1), some (.int x2), some (.int (0 : Int32)), none]) (by decide +kernel) rfl mx_154 rfl rfl ?_
  refine fs_iconst (n := 0) (p := 3) (by decide +kernel) rfl kc_0 ?_
  refine fs_istore (k := 4) (p := 5) (M := 5) (al' := [some (.ref 215), some (.int x1), some (.int x2), some (.int (0 : Int32)), some (.int (0 : Int32))]) (by decide +kernel) rfl mx_154 rfl rfl ?_
  exact fe_154_5 hd 100000 _ _ _ _ _ _ h

/-! ZoneSharesModel.countOf(II)I -/
theorem mx_155 : iv_mx 155 = 3 := by decide +kernel
theorem rt_155 : iv_rt 155 = some .int := by decide +kernel
def fm_155 (x1 : Int32) (x2 : Int32) (σ : fx_S) : Option (Int32 × fx_S) :=
  (fx_ld σ 216 (((5 : Int32) + ((9 : Int32) * x1)) + x2)).bind fun v4 =>
  some (v4, σ)
theorem fe_155 {d : Nat} (hd : 0 ≤ d) {x1 : Int32} {x2 : Int32} {σ : fx_S} {q : Int32 × fx_S} (h : fm_155 x1 x2 σ = some q) : fx_E none 155 d 0 [some (.ref 215), some (.int x1), some (.int x2)] [] σ (some (.int q.1)) q.2 := by
  unfold fm_155 at h
  refine fs_aload_n (k := 0) (p := 1) (by decide +kernel) rfl rfl ?_
  refine fs_gfr (idx := 9) (ci := 10) (j := 0) (p := 4) (by decide +kernel) rfl (by decide +kernel) fo_215 (fr_a215_0) ?_
  refine fs_iconst (n := 5) (p := 5) (by decide +kernel) rfl kc_5 ?_
  refine fs_bipush (n := 9) (p := 7) (by decide +kernel) rfl kb_9 ?_
  refine fs_iload_n (k := 1) (p := 8) (by decide +kernel) rfl rfl ?_
  refine fs_imul (p := 9) (by decide +kernel) rfl ?_
  refine fs_iadd (p := 10) (by decide +kernel) rfl ?_
  refine fs_iload_n (k := 2) (p := 11) (by decide +kernel) rfl rfl ?_
  refine fs_iadd (p := 12) (by decide +kernel) rfl ?_
  obtain ⟨v4, w5, h⟩ := fx_bd h
  refine fs_iaload (p := 13) (by decide +kernel) rfl w5 ?_
  have h := Option.some.inj h
  subst h
  exact fs_iret (by decide +kernel) rt_155

/-! ZoneSharesModel.weightAt(II)I -/
theorem mx_156 : iv_mx 156 = 3 := by decide +kernel
theorem rt_156 : iv_rt 156 = some .int := by decide +kernel
def fm_156 (x1 : Int32) (x2 : Int32) (σ : fx_S) : Option (Int32 × fx_S) :=
  (fm_152 (2 : Int32) x2 σ).bind fun q7 =>
  (fx_ld q7.2 216 (((32 : Int32) + ((4 : Int32) * x1)) + q7.1)).bind fun v8 =>
  some (v8, q7.2)
theorem fe_156 {d : Nat} (hd : 1 ≤ d) {x1 : Int32} {x2 : Int32} {σ : fx_S} {q : Int32 × fx_S} (h : fm_156 x1 x2 σ = some q) : fx_E none 156 d 0 [some (.ref 215), some (.int x1), some (.int x2)] [] σ (some (.int q.1)) q.2 := by
  unfold fm_156 at h
  refine fs_aload_n (k := 0) (p := 1) (by decide +kernel) rfl rfl ?_
  refine fs_gfr (idx := 9) (ci := 10) (j := 0) (p := 4) (by decide +kernel) rfl (by decide +kernel) fo_215 (fr_a215_0) ?_
  refine fs_bipush (n := 32) (p := 6) (by decide +kernel) rfl kb_32 ?_
  refine fs_iconst (n := 4) (p := 7) (by decide +kernel) rfl kc_4 ?_
  refine fs_iload_n (k := 1) (p := 8) (by decide +kernel) rfl rfl ?_
  refine fs_imul (p := 9) (by decide +kernel) rfl ?_
  refine fs_iadd (p := 10) (by decide +kernel) rfl ?_
  refine fs_aload_n (k := 0) (p := 11) (by decide +kernel) rfl rfl ?_
  refine fs_iconst (n := 2) (p := 12) (by decide +kernel) rfl kc_2 ?_
  refine fs_iload_n (k := 2) (p := 13) (by decide +kernel) rfl rfl ?_
  obtain ⟨q7, w6, h⟩ := fx_bd h
  refine fs_callV (idx := 199) (mj := 152) (ci := 10) (na := 2) (mx := 3) (p := 16) (args := [.ref 215, .int (2 : Int32), .int x2]) (rest := [.int ((32 : Int32) + ((4 : Int32) * x1)), .ref 216]) (al2 := [some (.ref 215), some (.int (2 : Int32)), some (.int x2)]) (by decide +kernel) rfl (by decide +kernel) fo_215 rfl rfl rfl rfl rfl rfl rfl (by omega) (fun d' hd' => fe_152 (by omega) w6) rfl ?_
  refine fs_iadd (p := 17) (by decide +kernel) rfl ?_
  obtain ⟨v8, w9, h⟩ := fx_bd h
  refine fs_iaload (p := 18) (by decide +kernel) rfl w9 ?_
  have h := Option.some.inj h
  subst h
  exact fs_iret (by decide +kernel) rt_156

/-! ZoneSharesModel.sumOf(IIIZ)I -/
theorem mx_157 : iv_mx 157 = 8 := by decide +kernel
theorem rt_157 : iv_rt 157 = some .int := by decide +kernel
def fm_157_81 (k_6 : Int32 → Int32 → Int32 → Int32 → Int32 → Int32 → fx_S → Option (Int32 × fx_S)) (x1 : Int32) (x2 : Int32) (x3 : Int32) (x4 : Int32) (x6 : Int32) (s0 : Int32) (s1 : Int32) (σ : fx_S) : Option (Int32 × fx_S) :=
  k_6 x1 x2 x3 x4 (s0 + s1) (x6 + (1 : Int32)) σ
theorem fe_157_81 {d : Nat} (hd : 2 ≤ d) {k_6 : Int32 → Int32 → Int32 → Int32 → Int32 → Int32 → fx_S → Option (Int32 × fx_S)} (hk_6 : ∀ (x1 : Int32) (x2 : Int32) (x3 : Int32) (x4 : Int32) (x5 : Int32) (x6 : Int32) (o7 : Option Value) (σ : fx_S) (q : Int32 × fx_S), k_6 x1 x2 x3 x4 x5 x6 σ = some q → fx_E none 157 d 6 [some (.ref 215), some (.int x1), some (.int x2), some (.int x3), some (.int x4), some (.int x5), some (.int x6), o7] [] σ (some (.int q.1)) q.2) (x1 : Int32) (x2 : Int32) (x3 : Int32) (x4 : Int32) (x6 : Int32) (s0 : Int32) (s1 : Int32) (o5 : Option Value) (o7 : Option Value) (σ : fx_S) (q : Int32 × fx_S) (h : fm_157_81 k_6  x1 x2 x3 x4 x6 s0 s1 σ = some q) : fx_E none 157 d 81 [some (.ref 215), some (.int x1), some (.int x2), some (.int x3), some (.int x4), o5, some (.int x6), o7] [.int s1, .int s0] σ (some (.int q.1)) q.2 := by
  unfold fm_157_81 at h
  refine fs_iadd (p := 82) (by decide +kernel) rfl ?_
  refine fs_istore (k := 5) (p := 84) (M := 8) (al' := [some (.ref 215), some (.int x1), some (.int x2), some (.int x3), some (.int x4), some (.int (s0 + s1)), some (.int x6), o7]) (by decide +kernel) rfl mx_157 rfl rfl ?_
  refine fs_iinc (k := 6) (n := 1) (p := 87) (M := 8) (al' := [some (.ref 215), some (.int x1), some (.int x2), some (.int x3), some (.int x4), some (.int (s0 + s1)), some (.int (x6 + (1 : Int32))), o7]) (by decide +kernel) rfl kc_1 mx_157 rfl rfl rfl ?_
  refine fs_goto (off := -81) (p := 6) (by decide +kernel) (by decide +kernel) ?_
  exact hk_6 _ _ _ _ _ _ _ _ _ h
def fm_157_52 (k_6 : Int32 → Int32 → Int32 → Int32 → Int32 → Int32 → fx_S → Option (Int32 × fx_S)) (x1 : Int32) (x2 : Int32) (x3 : Int32) (x4 : Int32) (x5 : Int32) (x6 : Int32) (s0 : Int32) (σ : fx_S) : Option (Int32 × fx_S) :=
  if ¬ s0 = 0 then (
    if x4 = 0 then (
      (fm_156 x1 x6 σ).bind fun q6 =>
      fm_157_81 k_6 x1 x2 x3 x4 x6 x5 q6.1 q6.2) else (
      fm_157_81 k_6 x1 x2 x3 x4 x6 x5 (1 : Int32) σ)) else (
    fm_157_81 k_6 x1 x2 x3 x4 x6 x5 (0 : Int32) σ)
theorem fe_157_52 {d : Nat} (hd : 2 ≤ d) {k_6 : Int32 → Int32 → Int32 → Int32 → Int32 → Int32 → fx_S → Option (Int32 × fx_S)} (hk_6 : ∀ (x1 : Int32) (x2 : Int32) (x3 : Int32) (x4 : Int32) (x5 : Int32) (x6 : Int32) (o7 : Option Value) (σ : fx_S) (q : Int32 × fx_S), k_6 x1 x2 x3 x4 x5 x6 σ = some q → fx_E none 157 d 6 [some (.ref 215), some (.int x1), some (.int x2), some (.int x3), some (.int x4), some (.int x5), some (.int x6), o7] [] σ (some (.int q.1)) q.2) (x1 : Int32) (x2 : Int32) (x3 : Int32) (x4 : Int32) (x5 : Int32) (x6 : Int32) (s0 : Int32) (o7 : Option Value) (σ : fx_S) (q : Int32 × fx_S) (h : fm_157_52 k_6  x1 x2 x3 x4 x5 x6 s0 σ = some q) : fx_E none 157 d 52 [some (.ref 215), some (.int x1), some (.int x2), some (.int x3), some (.int x4), some (.int x5), some (.int x6), o7] [.int s0] σ (some (.int q.1)) q.2 := by
  unfold fm_157_52 at h
  refine fs_istore (k := 7) (p := 54) (M := 8) (al' := [some (.ref 215), some (.int x1), some (.int x2), some (.int x3), some (.int x4), some (.int x5), some (.int x6), some (.int s0)]) (by decide +kernel) rfl mx_157 rfl rfl ?_
  refine fs_iload (k := 5) (p := 56) (by decide +kernel) rfl rfl ?_
  refine fs_iload (k := 7) (p := 58) (by decide +kernel) rfl rfl ?_
  by_cases c2 : ¬ s0 = 0
  · rw [if_pos c2] at h
    refine fs_if_ne_t (off := 7) (t := 65) (by decide +kernel) (by decide +kernel) c2 ?_
    refine fs_iload (k := 4) (p := 67) (by decide +kernel) rfl rfl ?_
    by_cases c4 : x4 = 0
    · rw [if_pos c4] at h
      refine fs_if_eq_t (off := 7) (t := 74) (by decide +kernel) (by decide +kernel) c4 ?_
      refine fs_aload_n (k := 0) (p := 75) (by decide +kernel) rfl rfl ?_
      refine fs_iload_n (k := 1) (p := 76) (by decide +kernel) rfl rfl ?_
      refine fs_iload (k := 6) (p := 78) (by decide +kernel) rfl rfl ?_
      obtain ⟨q6, w5, h⟩ := fx_bd h
      refine fs_callV (idx := 205) (mj := 156) (ci := 10) (na := 2) (mx := 3) (p := 81) (args := [.ref 215, .int x1, .int x6]) (rest := [.int x5]) (al2 := [some (.ref 215), some (.int x1), some (.int x6)]) (by decide +kernel) rfl (by decide +kernel) fo_215 rfl rfl rfl rfl rfl rfl rfl (by omega) (fun d' hd' => fe_156 (by omega) w5) rfl ?_
      exact fe_157_81 hd hk_6 _ _ _ _ _ _ _ _ _ _ _ h
    · rw [if_neg c4] at h
      refine fs_if_eq_f (off := 7) (t := 74) (p := 70) (by decide +kernel) (by decide +kernel) rfl c4 ?_
      refine fs_iconst (n := 1) (p := 71) (by decide +kernel) rfl kc_1 ?_
      refine fs_goto (off := 10) (p := 81) (by decide +kernel) (by decide +kernel) ?_
      exact fe_157_81 hd hk_6 _ _ _ _ _ _ _ _ _ _ _ h
  · rw [if_neg c2] at h
    refine fs_if_ne_f (off := 7) (t := 65) (p := 61) (by decide +kernel) (by decide +kernel) rfl c2 ?_
    refine fs_iconst (n := 0) (p := 62) (by decide +kernel) rfl kc_0 ?_
    refine fs_goto (off := 19) (p := 81) (by decide +kernel) (by decide +kernel) ?_
    exact fe_157_81 hd hk_6 _ _ _ _ _ _ _ _ _ _ _ h
def fm_157_31 (k_6 : Int32 → Int32 → Int32 → Int32 → Int32 → Int32 → fx_S → Option (Int32 × fx_S)) (x1 : Int32) (x2 : Int32) (x3 : Int32) (x4 : Int32) (x5 : Int32) (x6 : Int32) (σ : fx_S) : Option (Int32 × fx_S) :=
  if x3 = (-1 : Int32) then (
    fm_157_52 k_6 x1 x2 x3 x4 x5 x6 (1 : Int32) σ) else (
    (fm_152 (1 : Int32) x6 σ).bind fun q4 =>
    if ¬ q4.1 = x3 then (
      fm_157_52 k_6 x1 x2 x3 x4 x5 x6 (0 : Int32) q4.2) else (
      fm_157_52 k_6 x1 x2 x3 x4 x5 x6 (1 : Int32) q4.2))
theorem fe_157_31 {d : Nat} (hd : 2 ≤ d) {k_6 : Int32 → Int32 → Int32 → Int32 → Int32 → Int32 → fx_S → Option (Int32 × fx_S)} (hk_6 : ∀ (x1 : Int32) (x2 : Int32) (x3 : Int32) (x4 : Int32) (x5 : Int32) (x6 : Int32) (o7 : Option Value) (σ : fx_S) (q : Int32 × fx_S), k_6 x1 x2 x3 x4 x5 x6 σ = some q → fx_E none 157 d 6 [some (.ref 215), some (.int x1), some (.int x2), some (.int x3), some (.int x4), some (.int x5), some (.int x6), o7] [] σ (some (.int q.1)) q.2) (x1 : Int32) (x2 : Int32) (x3 : Int32) (x4 : Int32) (x5 : Int32) (x6 : Int32) (o7 : Option Value) (σ : fx_S) (q : Int32 × fx_S) (h : fm_157_31 k_6  x1 x2 x3 x4 x5 x6 σ = some q) : fx_E none 157 d 31 [some (.ref 215), some (.int x1), some (.int x2), some (.int x3), some (.int x4), some (.int x5), some (.int x6), o7] [] σ (some (.int q.1)) q.2 := by
  unfold fm_157_31 at h
  refine fs_iload_n (k := 3) (p := 32) (by decide +kernel) rfl rfl ?_
  refine fs_iconst (n := -1) (p := 33) (by decide +kernel) rfl kc_m1 ?_
  by_cases c2 : x3 = (-1 : Int32)
  · rw [if_pos c2] at h
    refine fs_icmp_eq_t (off := 14) (t := 47) (by decide +kernel) (by decide +kernel) c2 ?_
    refine fs_iconst (n := 1) (p := 48) (by decide +kernel) rfl kc_1 ?_
    refine fs_goto (off := 4) (p := 52) (by decide +kernel) (by decide +kernel) ?_
    exact fe_157_52 hd hk_6 _ _ _ _ _ _ _ _ _ _ h
  · rw [if_neg c2] at h
    refine fs_icmp_eq_f (off := 14) (t := 47) (p := 36) (by decide +kernel) (by decide +kernel) rfl c2 ?_
    refine fs_aload_n (k := 0) (p := 37) (by decide +kernel) rfl rfl ?_
    refine fs_iconst (n := 1) (p := 38) (by decide +kernel) rfl kc_1 ?_
    refine fs_iload (k := 6) (p := 40) (by decide +kernel) rfl rfl ?_
    obtain ⟨q4, w3, h⟩ := fx_bd h
    refine fs_callV (idx := 199) (mj := 152) (ci := 10) (na := 2) (mx := 3) (p := 43) (args := [.ref 215, .int (1 : Int32), .int x6]) (rest := []) (al2 := [some (.ref 215), some (.int (1 : Int32)), some (.int x6)]) (by decide +kernel) rfl (by decide +kernel) fo_215 rfl rfl rfl rfl rfl rfl rfl (by omega) (fun d' hd' => fe_152 (by omega) w3) rfl ?_
    refine fs_iload_n (k := 3) (p := 44) (by decide +kernel) rfl rfl ?_
    by_cases c6 : ¬ q4.1 = x3
    · rw [if_pos c6] at h
      refine fs_icmp_ne_t (off := 7) (t := 51) (by decide +kernel) (by decide +kernel) c6 ?_
      refine fs_iconst (n := 0) (p := 52) (by decide +kernel) rfl kc_0 ?_
      exact fe_157_52 hd hk_6 _ _ _ _ _ _ _ _ _ _ h
    · rw [if_neg c6] at h
      refine fs_icmp_ne_f (off := 7) (t := 51) (p := 47) (by decide +kernel) (by decide +kernel) rfl c6 ?_
      refine fs_iconst (n := 1) (p := 48) (by decide +kernel) rfl kc_1 ?_
      refine fs_goto (off := 4) (p := 52) (by decide +kernel) (by decide +kernel) ?_
      exact fe_157_52 hd hk_6 _ _ _ _ _ _ _ _ _ _ h
def fm_157_6 : Nat → Int32 → Int32 → Int32 → Int32 → Int32 → Int32 → fx_S → Option (Int32 × fx_S)
  | 0, _, _, _, _, _, _, _ => none
  | n + 1, x1, x2, x3, x4, x5, x6, σ =>
    (fm_151 σ).bind fun q2 =>
    if q2.1 ≤ x6 then (
      some (x5, q2.2)) else (
      if x2 = (-1 : Int32) then (
        fm_157_31 (fm_157_6 n) x1 x2 x3 x4 x5 x6 q2.2) else (
        (fm_152 (0 : Int32) x6 q2.2).bind fun q9 =>
        if ¬ q9.1 = x2 then (
          fm_157_52 (fm_157_6 n) x1 x2 x3 x4 x5 x6 (0 : Int32) q9.2) else (
          fm_157_31 (fm_157_6 n) x1 x2 x3 x4 x5 x6 q9.2)))
theorem fe_157_6 {d : Nat} (hd : 2 ≤ d) : ∀ (n : Nat) (x1 : Int32) (x2 : Int32) (x3 : Int32) (x4 : Int32) (x5 : Int32) (x6 : Int32) (o7 : Option Value) (σ : fx_S) (q : Int32 × fx_S), fm_157_6 n x1 x2 x3 x4 x5 x6 σ = some q → fx_E none 157 d 6 [some (.ref 215), some (.int x1), some (.int x2), some (.int x3), some (.int x4), some (.int x5), some (.int x6), o7] [] σ (some (.int q.1)) q.2 := by
  intro n
  induction n with
  | zero =>
    intro x1 x2 x3 x4 x5 x6 o7 σ q  h
    rw [fm_157_6] at h
    exact fx_no h
  | succ n ih =>
    intro x1 x2 x3 x4 x5 x6 o7 σ q  h
    rw [fm_157_6] at h
    refine fs_iload (k := 6) (p := 8) (by decide +kernel) rfl rfl ?_
    refine fs_aload_n (k := 0) (p := 9) (by decide +kernel) rfl rfl ?_
    obtain ⟨q2, w1, h⟩ := fx_bd h
    refine fs_callV (idx := 196) (mj := 151) (ci := 10) (na := 0) (mx := 1) (p := 12) (args := [.ref 215]) (rest := [.int x6]) (al2 := [some (.ref 215)]) (by decide +kernel) rfl (by decide +kernel) fo_215 rfl rfl rfl rfl rfl rfl rfl (by omega) (fun d' hd' => fe_151 (by omega) w1) rfl ?_
    by_cases c5 : q2.1 ≤ x6
    · rw [if_pos c5] at h
      refine fs_icmp_ge_t (off := 78) (t := 90) (by decide +kernel) (by decide +kernel) c5 ?_
      refine fs_iload (k := 5) (p := 92) (by decide +kernel) rfl rfl ?_
      have h := Option.some.inj h
      subst h
      exact fs_iret (by decide +kernel) rt_157
    · rw [if_neg c5] at h
      refine fs_icmp_ge_f (off := 78) (t := 90) (p := 15) (by decide +kernel) (by decide +kernel) rfl c5 ?_
      refine fs_iload_n (k := 2) (p := 16) (by decide +kernel) rfl rfl ?_
      refine fs_iconst (n := -1) (p := 17) (by decide +kernel) rfl kc_m1 ?_
      by_cases c7 : x2 = (-1 : Int32)
      · rw [if_pos c7] at h
        refine fs_icmp_eq_t (off := 14) (t := 31) (by decide +kernel) (by decide +kernel) c7 ?_
        exact fe_157_31 hd ih _ _ _ _ _ _ _ _ _ h
      · rw [if_neg c7] at h
        refine fs_icmp_eq_f (off := 14) (t := 31) (p := 20) (by decide +kernel) (by decide +kernel) rfl c7 ?_
        refine fs_aload_n (k := 0) (p := 21) (by decide +kernel) rfl rfl ?_
        refine fs_iconst (n := 0) (p := 22) (by decide +kernel) rfl kc_0 ?_
        refine fs_iload (k := 6) (p := 24) (by decide +kernel) rfl rfl ?_
        obtain ⟨q9, w8, h⟩ := fx_bd h
        refine fs_callV (idx := 199) (mj := 152) (ci := 10) (na := 2) (mx := 3) (p := 27) (args := [.ref 215, .int (0 : Int32), .int x6]) (rest := []) (al2 := [some (.ref 215), some (.int (0 : Int32)), some (.int x6)]) (by decide +kernel) rfl (by decide +kernel) fo_215 rfl rfl rfl rfl rfl rfl rfl (by omega) (fun d' hd' => fe_152 (by omega) w8) rfl ?_
        refine fs_iload_n (k := 2) (p := 28) (by decide +kernel) rfl rfl ?_
        by_cases c11 : ¬ q9.1 = x2
        · rw [if_pos c11] at h
          refine fs_icmp_ne_t (off := 23) (t := 51) (by decide +kernel) (by decide +kernel) c11 ?_
          refine fs_iconst (n := 0) (p := 52) (by decide +kernel) rfl kc_0 ?_
          exact fe_157_52 hd ih _ _ _ _ _ _ _ _ _ _ h
        · rw [if_neg c11] at h
          refine fs_icmp_ne_f (off := 23) (t := 51) (p := 31) (by decide +kernel) (by decide +kernel) rfl c11 ?_
          exact fe_157_31 hd ih _ _ _ _ _ _ _ _ _ h
def fm_157 (x1 : Int32) (x2 : Int32) (x3 : Int32) (x4 : Int32) (σ : fx_S) : Option (Int32 × fx_S) :=
  fm_157_6 100000 x1 x2 x3 x4 (0 : Int32) (0 : Int32) σ
theorem fe_157 {d : Nat} (hd : 2 ≤ d) {x1 : Int32} {x2 : Int32} {x3 : Int32} {x4 : Int32} {σ : fx_S} {q : Int32 × fx_S} (h : fm_157 x1 x2 x3 x4 σ = some q) : fx_E none 157 d 0 [some (.ref 215), some (.int x1), some (.int x2), some (.int x3), some (.int x4), none, none, none] [] σ (some (.int q.1)) q.2 := by
  unfold fm_157 at h
  refine fs_iconst (n := 0) (p := 1) (by decide +kernel) rfl kc_0 ?_
  refine fs_istore (k := 5) (p := 3) (M := 8) (al' := [some (.ref 215), some (.int x1), some (.int x2), some (.int x3), some (.int x4), some (.int (0 : Int32)), none, none]) (by decide +kernel) rfl mx_157 rfl rfl ?_
  refine fs_iconst (n := 0) (p := 4) (by decide +kernel) rfl kc_0 ?_
  refine fs_istore (k := 6) (p := 6) (M := 8) (al' := [some (.ref 215), some (.int x1), some (.int x2), some (.int x3), some (.int x4), some (.int (0 : Int32)), some (.int (0 : Int32)), none]) (by decide +kernel) rfl mx_157 rfl rfl ?_
  exact fe_157_6 hd 100000 _ _ _ _ _ _ _ _ _ h

/-! ZoneSharesModel.oldCells(I)I -/
theorem mx_158 : iv_mx 158 = 4 := by decide +kernel
theorem rt_158 : iv_rt 158 = some .int := by decide +kernel
def fm_158_28 (k_4 : Int32 → Int32 → Int32 → fx_S → Option (Int32 × fx_S)) (x1 : Int32) (x3 : Int32) (s0 : Int32) (s1 : Int32) (σ : fx_S) : Option (Int32 × fx_S) :=
  (fm_131 s1 σ).bind fun q2 =>
  k_4 x1 (s0 + q2.1) (x3 + (1 : Int32)) q2.2
theorem fe_158_28 {d : Nat} (hd : 1 ≤ d) {k_4 : Int32 → Int32 → Int32 → fx_S → Option (Int32 × fx_S)} (hk_4 : ∀ (x1 : Int32) (x2 : Int32) (x3 : Int32) (σ : fx_S) (q : Int32 × fx_S), k_4 x1 x2 x3 σ = some q → fx_E none 158 d 4 [some (.ref 215), some (.int x1), some (.int x2), some (.int x3)] [] σ (some (.int q.1)) q.2) (x1 : Int32) (x3 : Int32) (s0 : Int32) (s1 : Int32) (o2 : Option Value) (σ : fx_S) (q : Int32 × fx_S) (h : fm_158_28 k_4  x1 x3 s0 s1 σ = some q) : fx_E none 158 d 28 [some (.ref 215), some (.int x1), o2, some (.int x3)] [.int s1, .int s0] σ (some (.int q.1)) q.2 := by
  unfold fm_158_28 at h
  obtain ⟨q2, w1, h⟩ := fx_bd h
  refine fs_callS (idx := 186) (mj := 131) (na := 1) (mx := 1) (p := 31) (args := [.int s1]) (rest := [.int s0]) (al2 := [some (.int s1)]) (by decide +kernel) rfl (by decide +kernel) rfl rfl rfl rfl rfl rfl rfl (by omega) (fun d' hd' => fe_131 (by omega) w1) rfl ?_
  refine fs_iadd (p := 32) (by decide +kernel) rfl ?_
  refine fs_istore_n (k := 2) (p := 33) (M := 4) (al' := [some (.ref 215), some (.int x1), some (.int (s0 + q2.1)), some (.int x3)]) (by decide +kernel) rfl mx_158 rfl rfl ?_
  refine fs_iinc (k := 3) (n := 1) (p := 36) (M := 4) (al' := [some (.ref 215), some (.int x1), some (.int (s0 + q2.1)), some (.int (x3 + (1 : Int32)))]) (by decide +kernel) rfl kc_1 mx_158 rfl rfl rfl ?_
  refine fs_goto (off := -32) (p := 4) (by decide +kernel) (by decide +kernel) ?_
  exact hk_4 _ _ _ _ _ h
def fm_158_4 : Nat → Int32 → Int32 → Int32 → fx_S → Option (Int32 × fx_S)
  | 0, _, _, _, _ => none
  | n + 1, x1, x2, x3, σ =>
    (fm_151 σ).bind fun q2 =>
    if q2.1 ≤ x3 then (
      some (x2, q2.2)) else (
      (fm_152 (0 : Int32) x3 q2.2).bind fun q7 =>
      if ¬ q7.1 = x1 then (
        fm_158_28 (fm_158_4 n) x1 x3 x2 (0 : Int32) q7.2) else (
        fm_158_28 (fm_158_4 n) x1 x3 x2 (1 : Int32) q7.2))
theorem fe_158_4 {d : Nat} (hd : 1 ≤ d) : ∀ (n : Nat) (x1 : Int32) (x2 : Int32) (x3 : Int32) (σ : fx_S) (q : Int32 × fx_S), fm_158_4 n x1 x2 x3 σ = some q → fx_E none 158 d 4 [some (.ref 215), some (.int x1), some (.int x2), some (.int x3)] [] σ (some (.int q.1)) q.2 := by
  intro n
  induction n with
  | zero =>
    intro x1 x2 x3 σ q  h
    rw [fm_158_4] at h
    exact fx_no h
  | succ n ih =>
    intro x1 x2 x3 σ q  h
    rw [fm_158_4] at h
    refine fs_iload_n (k := 3) (p := 5) (by decide +kernel) rfl rfl ?_
    refine fs_aload_n (k := 0) (p := 6) (by decide +kernel) rfl rfl ?_
    obtain ⟨q2, w1, h⟩ := fx_bd h
    refine fs_callV (idx := 196) (mj := 151) (ci := 10) (na := 0) (mx := 1) (p := 9) (args := [.ref 215]) (rest := [.int x3]) (al2 := [some (.ref 215)]) (by decide +kernel) rfl (by decide +kernel) fo_215 rfl rfl rfl rfl rfl rfl rfl (by omega) (fun d' hd' => fe_151 (by omega) w1) rfl ?_
    by_cases c5 : q2.1 ≤ x3
    · rw [if_pos c5] at h
      refine fs_icmp_ge_t (off := 30) (t := 39) (by decide +kernel) (by decide +kernel) c5 ?_
      refine fs_iload_n (k := 2) (p := 40) (by decide +kernel) rfl rfl ?_
      have h := Option.some.inj h
      subst h
      exact fs_iret (by decide +kernel) rt_158
    · rw [if_neg c5] at h
      refine fs_icmp_ge_f (off := 30) (t := 39) (p := 12) (by decide +kernel) (by decide +kernel) rfl c5 ?_
      refine fs_iload_n (k := 2) (p := 13) (by decide +kernel) rfl rfl ?_
      refine fs_aload_n (k := 0) (p := 14) (by decide +kernel) rfl rfl ?_
      refine fs_iconst (n := 0) (p := 15) (by decide +kernel) rfl kc_0 ?_
      refine fs_iload_n (k := 3) (p := 16) (by decide +kernel) rfl rfl ?_
      obtain ⟨q7, w6, h⟩ := fx_bd h
      refine fs_callV (idx := 199) (mj := 152) (ci := 10) (na := 2) (mx := 3) (p := 19) (args := [.ref 215, .int (0 : Int32), .int x3]) (rest := [.int x2]) (al2 := [some (.ref 215), some (.int (0 : Int32)), some (.int x3)]) (by decide +kernel) rfl (by decide +kernel) fo_215 rfl rfl rfl rfl rfl rfl rfl (by omega) (fun d' hd' => fe_152 (by omega) w6) rfl ?_
      refine fs_iload_n (k := 1) (p := 20) (by decide +kernel) rfl rfl ?_
      by_cases c10 : ¬ q7.1 = x1
      · rw [if_pos c10] at h
        refine fs_icmp_ne_t (off := 7) (t := 27) (by decide +kernel) (by decide +kernel) c10 ?_
        refine fs_iconst (n := 0) (p := 28) (by decide +kernel) rfl kc_0 ?_
        exact fe_158_28 hd ih _ _ _ _ _ _ _ h
      · rw [if_neg c10] at h
        refine fs_icmp_ne_f (off := 7) (t := 27) (p := 23) (by decide +kernel) (by decide +kernel) rfl c10 ?_
        refine fs_iconst (n := 1) (p := 24) (by decide +kernel) rfl kc_1 ?_
        refine fs_goto (off := 4) (p := 28) (by decide +kernel) (by decide +kernel) ?_
        exact fe_158_28 hd ih _ _ _ _ _ _ _ h
def fm_158 (x1 : Int32) (σ : fx_S) : Option (Int32 × fx_S) :=
  fm_158_4 100000 x1 (0 : Int32) (0 : Int32) σ
theorem fe_158 {d : Nat} (hd : 1 ≤ d) {x1 : Int32} {σ : fx_S} {q : Int32 × fx_S} (h : fm_158 x1 σ = some q) : fx_E none 158 d 0 [some (.ref 215), some (.int x1), none, none] [] σ (some (.int q.1)) q.2 := by
  unfold fm_158 at h
  refine fs_iconst (n := 0) (p := 1) (by decide +kernel) rfl kc_0 ?_
  refine fs_istore_n (k := 2) (p := 2) (M := 4) (al' := [some (.ref 215), some (.int x1), some (.int (0 : Int32)), none]) (by decide +kernel) rfl mx_158 rfl rfl ?_
  refine fs_iconst (n := 0) (p := 3) (by decide +kernel) rfl kc_0 ?_
  refine fs_istore_n (k := 3) (p := 4) (M := 4) (al' := [some (.ref 215), some (.int x1), some (.int (0 : Int32)), some (.int (0 : Int32))]) (by decide +kernel) rfl mx_158 rfl rfl ?_
  exact fe_158_4 hd 100000 _ _ _ _ _ h

/-! ZoneSharesModel.begins(II)V -/
theorem mx_159 : iv_mx 159 = 4 := by decide +kernel
theorem rt_159 : iv_rt 159 = none := by decide +kernel
def fm_159_12 : Nat → Int32 → fx_S → Option (fx_S)
  | 0, _, _ => none
  | n + 1, x3, σ =>
    if (72 : Int32) ≤ x3 then (
      some σ) else (
      (fx_st σ 222 x3 (0 : Int32)).bind fun t3 =>
      (fx_stl t3 224 x3 (0 : Int64)).bind fun t6 =>
      (fx_stl t6 225 x3 (0 : Int64)).bind fun t8 =>
      fm_159_12 n (x3 + (1 : Int32)) t8)
theorem fe_159_12 {d : Nat} (hd : 0 ≤ d) : ∀ (n : Nat) (x3 : Int32) (o1 : Option Value) (o2 : Option Value) (σ : fx_S) (q : fx_S), fm_159_12 n x3 σ = some q → fx_E none 159 d 12 [some (.ref 215), o1, o2, some (.int x3)] [] σ none q := by
  intro n
  induction n with
  | zero =>
    intro x3 o1 o2 σ q  h
    rw [fm_159_12] at h
    exact fx_no h
  | succ n ih =>
    intro x3 o1 o2 σ q  h
    rw [fm_159_12] at h
    refine fs_iload_n (k := 3) (p := 13) (by decide +kernel) rfl rfl ?_
    refine fs_bipush (n := 72) (p := 15) (by decide +kernel) rfl kb_72 ?_
    by_cases c2 : (72 : Int32) ≤ x3
    · rw [if_pos c2] at h
      refine fs_icmp_ge_t (off := 30) (t := 45) (by decide +kernel) (by decide +kernel) c2 ?_
      have h := Option.some.inj h
      subst h
      exact fs_ret (by decide +kernel) rt_159
    · rw [if_neg c2] at h
      refine fs_icmp_ge_f (off := 30) (t := 45) (p := 18) (by decide +kernel) (by decide +kernel) rfl c2 ?_
      refine fs_aload_n (k := 0) (p := 19) (by decide +kernel) rfl rfl ?_
      refine fs_gfr (idx := 30) (ci := 10) (j := 13) (p := 22) (by decide +kernel) rfl (by decide +kernel) fo_215 (fr_a215_13) ?_
      refine fs_iload_n (k := 3) (p := 23) (by decide +kernel) rfl rfl ?_
      refine fs_iconst (n := 0) (p := 24) (by decide +kernel) rfl kc_0 ?_
      obtain ⟨t3, w4, h⟩ := fx_bd h
      refine fs_iastore (p := 25) (by decide +kernel) rfl w4 ?_
      refine fs_aload_n (k := 0) (p := 26) (by decide +kernel) rfl rfl ?_
      refine fs_gfr (idx := 36) (ci := 10) (j := 15) (p := 29) (by decide +kernel) rfl (by decide +kernel) fo_215 (fr_a215_15) ?_
      refine fs_iload_n (k := 3) (p := 30) (by decide +kernel) rfl rfl ?_
      refine fs_lconst (n := 0) (p := 31) (by decide +kernel) rfl kl_0 ?_
      obtain ⟨t6, w7, h⟩ := fx_bd h
      refine fs_lastore (p := 32) (by decide +kernel) rfl w7 ?_
      refine fs_aload_n (k := 0) (p := 33) (by decide +kernel) rfl rfl ?_
      refine fs_gfr (idx := 39) (ci := 10) (j := 16) (p := 36) (by decide +kernel) rfl (by decide +kernel) fo_215 (fr_a215_16) ?_
      refine fs_iload_n (k := 3) (p := 37) (by decide +kernel) rfl rfl ?_
      refine fs_lconst (n := 0) (p := 38) (by decide +kernel) rfl kl_0 ?_
      obtain ⟨t8, w9, h⟩ := fx_bd h
      refine fs_lastore (p := 39) (by decide +kernel) rfl w9 ?_
      refine fs_iinc (k := 3) (n := 1) (p := 42) (M := 4) (al' := [some (.ref 215), o1, (fx_kl o2), some (.int (x3 + (1 : Int32)))]) (by decide +kernel) rfl kc_1 mx_159 rfl rfl rfl ?_
      refine fs_goto (off := -30) (p := 12) (by decide +kernel) (by decide +kernel) ?_
      exact ih _ _ _ _ _ h
def fm_159 (x1 : Int32) (x2 : Int32) (σ : fx_S) : Option (fx_S) :=
  fm_159_12 100000 (0 : Int32) (fx_w1 (fx_w1 σ 215 17 x1) 215 18 x2)
theorem fe_159 {d : Nat} (hd : 0 ≤ d) {x1 : Int32} {x2 : Int32} {σ : fx_S} {q : fx_S} (h : fm_159 x1 x2 σ = some q) : fx_E none 159 d 0 [some (.ref 215), some (.int x1), some (.int x2), none] [] σ none q := by
  unfold fm_159 at h
  refine fs_aload_n (k := 0) (p := 1) (by decide +kernel) rfl rfl ?_
  refine fs_iload_n (k := 1) (p := 2) (by decide +kernel) rfl rfl ?_
  refine fs_pfi (idx := 208) (ci := 10) (j := 17) (p := 5) (by decide +kernel) rfl (by decide +kernel) (by decide +kernel) fo_215 (fx_oki _ (by decide +kernel)) ?_
  refine fs_aload_n (k := 0) (p := 6) (by decide +kernel) rfl rfl ?_
  refine fs_iload_n (k := 2) (p := 7) (by decide +kernel) rfl rfl ?_
  refine fs_pfi (idx := 211) (ci := 10) (j := 18) (p := 10) (by decide +kernel) rfl (by decide +kernel) (by decide +kernel) fo_215 (fx_oki _ (by decide +kernel)) ?_
  refine fs_iconst (n := 0) (p := 11) (by decide +kernel) rfl kc_0 ?_
  refine fs_istore_n (k := 3) (p := 12) (M := 4) (al' := [some (.ref 215), some (.int x1), some (.int x2), some (.int (0 : Int32))]) (by decide +kernel) rfl mx_159 rfl rfl ?_
  exact fe_159_12 hd 100000 _ _ _ _ _ h

/-! ZoneSharesModel.at(II)I -/
theorem mx_160 : iv_mx 160 = 2 := by decide +kernel
theorem rt_160 : iv_rt 160 = some .int := by decide +kernel
def fm_160 (x0 : Int32) (x1 : Int32) (σ : fx_S) : Option (Int32 × fx_S) :=
  some ((((9 : Int32) * x0) + x1), σ)
theorem fe_160 {d : Nat} (hd : 0 ≤ d) {x0 : Int32} {x1 : Int32} {σ : fx_S} {q : Int32 × fx_S} (h : fm_160 x0 x1 σ = some q) : fx_E none 160 d 0 [some (.int x0), some (.int x1)] [] σ (some (.int q.1)) q.2 := by
  unfold fm_160 at h
  refine fs_bipush (n := 9) (p := 2) (by decide +kernel) rfl kb_9 ?_
  refine fs_iload_n (k := 0) (p := 3) (by decide +kernel) rfl rfl ?_
  refine fs_imul (p := 4) (by decide +kernel) rfl ?_
  refine fs_iload_n (k := 1) (p := 5) (by decide +kernel) rfl rfl ?_
  refine fs_iadd (p := 6) (by decide +kernel) rfl ?_
  have h := Option.some.inj h
  subst h
  exact fs_iret (by decide +kernel) rt_160

/-! ZoneSharesModel.wholeOf(I)I -/
theorem mx_161 : iv_mx 161 = 4 := by decide +kernel
theorem rt_161 : iv_rt 161 = some .int := by decide +kernel
def fm_161_4 : Nat → Int32 → Int32 → Int32 → fx_S → Option (Int32 × fx_S)
  | 0, _, _, _, _ => none
  | n + 1, x1, x2, x3, σ =>
    if (σ.1 215 18) ≤ x3 then (
      (fx_st σ 223 x1 x2).bind fun t4 =>
      some (x2, t4)) else (
      (fm_160 x1 x3 σ).bind fun q8 =>
      (fx_ld q8.2 222 q8.1).bind fun v9 =>
      fm_161_4 n x1 (x2 + v9) (x3 + (1 : Int32)) q8.2)
theorem fe_161_4 {d : Nat} (hd : 1 ≤ d) : ∀ (n : Nat) (x1 : Int32) (x2 : Int32) (x3 : Int32) (σ : fx_S) (q : Int32 × fx_S), fm_161_4 n x1 x2 x3 σ = some q → fx_E none 161 d 4 [some (.ref 215), some (.int x1), some (.int x2), some (.int x3)] [] σ (some (.int q.1)) q.2 := by
  intro n
  induction n with
  | zero =>
    intro x1 x2 x3 σ q  h
    rw [fm_161_4] at h
    exact fx_no h
  | succ n ih =>
    intro x1 x2 x3 σ q  h
    rw [fm_161_4] at h
    refine fs_iload_n (k := 3) (p := 5) (by decide +kernel) rfl rfl ?_
    refine fs_aload_n (k := 0) (p := 6) (by decide +kernel) rfl rfl ?_
    refine fs_gfi (idx := 211) (ci := 10) (j := 18) (p := 9) (by decide +kernel) rfl (by decide +kernel) fo_215 ?_
    by_cases c3 : (σ.1 215 18) ≤ x3
    · rw [if_pos c3] at h
      refine fs_icmp_ge_t (off := 22) (t := 31) (by decide +kernel) (by decide +kernel) c3 ?_
      refine fs_aload_n (k := 0) (p := 32) (by decide +kernel) rfl rfl ?_
      refine fs_gfr (idx := 33) (ci := 10) (j := 14) (p := 35) (by decide +kernel) rfl (by decide +kernel) fo_215 (fr_a215_14) ?_
      refine fs_iload_n (k := 1) (p := 36) (by decide +kernel) rfl rfl ?_
      refine fs_iload_n (k := 2) (p := 37) (by decide +kernel) rfl rfl ?_
      obtain ⟨t4, w5, h⟩ := fx_bd h
      refine fs_iastore (p := 38) (by decide +kernel) rfl w5 ?_
      refine fs_iload_n (k := 2) (p := 39) (by decide +kernel) rfl rfl ?_
      have h := Option.some.inj h
      subst h
      exact fs_iret (by decide +kernel) rt_161
    · rw [if_neg c3] at h
      refine fs_icmp_ge_f (off := 22) (t := 31) (p := 12) (by decide +kernel) (by decide +kernel) rfl c3 ?_
      refine fs_iload_n (k := 2) (p := 13) (by decide +kernel) rfl rfl ?_
      refine fs_aload_n (k := 0) (p := 14) (by decide +kernel) rfl rfl ?_
      refine fs_gfr (idx := 30) (ci := 10) (j := 13) (p := 17) (by decide +kernel) rfl (by decide +kernel) fo_215 (fr_a215_13) ?_
      refine fs_iload_n (k := 1) (p := 18) (by decide +kernel) rfl rfl ?_
      refine fs_iload_n (k := 3) (p := 19) (by decide +kernel) rfl rfl ?_
      obtain ⟨q8, w7, h⟩ := fx_bd h
      refine fs_callS (idx := 214) (mj := 160) (na := 2) (mx := 2) (p := 22) (args := [.int x1, .int x3]) (rest := [.ref 222, .int x2]) (al2 := [some (.int x1), some (.int x3)]) (by decide +kernel) rfl (by decide +kernel) rfl rfl rfl rfl rfl rfl rfl (by omega) (fun d' hd' => fe_160 (by omega) w7) rfl ?_
      obtain ⟨v9, w10, h⟩ := fx_bd h
      refine fs_iaload (p := 23) (by decide +kernel) rfl w10 ?_
      refine fs_iadd (p := 24) (by decide +kernel) rfl ?_
      refine fs_istore_n (k := 2) (p := 25) (M := 4) (al' := [some (.ref 215), some (.int x1), some (.int (x2 + v9)), some (.int x3)]) (by decide +kernel) rfl mx_161 rfl rfl ?_
      refine fs_iinc (k := 3) (n := 1) (p := 28) (M := 4) (al' := [some (.ref 215), some (.int x1), some (.int (x2 + v9)), some (.int (x3 + (1 : Int32)))]) (by decide +kernel) rfl kc_1 mx_161 rfl rfl rfl ?_
      refine fs_goto (off := -24) (p := 4) (by decide +kernel) (by decide +kernel) ?_
      exact ih _ _ _ _ _ h
def fm_161 (x1 : Int32) (σ : fx_S) : Option (Int32 × fx_S) :=
  fm_161_4 100000 x1 (0 : Int32) (0 : Int32) σ
theorem fe_161 {d : Nat} (hd : 1 ≤ d) {x1 : Int32} {σ : fx_S} {q : Int32 × fx_S} (h : fm_161 x1 σ = some q) : fx_E none 161 d 0 [some (.ref 215), some (.int x1), none, none] [] σ (some (.int q.1)) q.2 := by
  unfold fm_161 at h
  refine fs_iconst (n := 0) (p := 1) (by decide +kernel) rfl kc_0 ?_
  refine fs_istore_n (k := 2) (p := 2) (M := 4) (al' := [some (.ref 215), some (.int x1), some (.int (0 : Int32)), none]) (by decide +kernel) rfl mx_161 rfl rfl ?_
  refine fs_iconst (n := 0) (p := 3) (by decide +kernel) rfl kc_0 ?_
  refine fs_istore_n (k := 3) (p := 4) (M := 4) (al' := [some (.ref 215), some (.int x1), some (.int (0 : Int32)), some (.int (0 : Int32))]) (by decide +kernel) rfl mx_161 rfl rfl ?_
  exact fe_161_4 hd 100000 _ _ _ _ _ h

/-! ZoneSharesModel.cutsOff(I)J -/
theorem mx_162 : iv_mx 162 = 7 := by decide +kernel
theorem rt_162 : iv_rt 162 = some .long := by decide +kernel
def fm_162_107 (k_10 : Int32 → Int64 → Int32 → fx_S → Option (Int64 × fx_S)) (x1 : Int32) (x2 : Int64) (x4 : Int32) (s1 : Int32) (s2 : Int64) (σ : fx_S) : Option (Int64 × fx_S) :=
  (fx_stl σ 225 s1 s2).bind fun t1 =>
  (fm_160 x1 x4 t1).bind fun q5 =>
  (fx_ldl q5.2 224 q5.1).bind fun v6 =>
  k_10 x1 (x2 - v6) (x4 + (1 : Int32)) q5.2
theorem fe_162_107 {d : Nat} (hd : 1 ≤ d) {k_10 : Int32 → Int64 → Int32 → fx_S → Option (Int64 × fx_S)} (hk_10 : ∀ (x1 : Int32) (x2 : Int64) (x4 : Int32) (o5 : Option Value) (σ : fx_S) (q : Int64 × fx_S), k_10 x1 x2 x4 σ = some q → fx_E none 162 d 10 [some (.ref 215), some (.int x1), some (.long x2), none, some (.int x4), o5, none] [] σ (some (.long q.1)) q.2) (x1 : Int32) (x2 : Int64) (x4 : Int32) (s1 : Int32) (s2 : Int64) (o5 : Option Value) (σ : fx_S) (q : Int64 × fx_S) (h : fm_162_107 k_10  x1 x2 x4 s1 s2 σ = some q) : fx_E none 162 d 107 [some (.ref 215), some (.int x1), some (.long x2), none, some (.int x4), o5, none] [.long s2, .int s1, .ref 225] σ (some (.long q.1)) q.2 := by
  unfold fm_162_107 at h
  obtain ⟨t1, w2, h⟩ := fx_bd h
  refine fs_lastore (p := 108) (by decide +kernel) rfl w2 ?_
  refine fs_lload_n (k := 2) (p := 109) (by decide +kernel) rfl rfl ?_
  refine fs_aload_n (k := 0) (p := 110) (by decide +kernel) rfl rfl ?_
  refine fs_gfr (idx := 36) (ci := 10) (j := 15) (p := 113) (by decide +kernel) rfl (by decide +kernel) fo_215 (fr_a215_15) ?_
  refine fs_iload_n (k := 1) (p := 114) (by decide +kernel) rfl rfl ?_
  refine fs_iload (k := 4) (p := 116) (by decide +kernel) rfl rfl ?_
  obtain ⟨q5, w4, h⟩ := fx_bd h
  refine fs_callS (idx := 214) (mj := 160) (na := 2) (mx := 2) (p := 119) (args := [.int x1, .int x4]) (rest := [.ref 224, .long x2]) (al2 := [some (.int x1), some (.int x4)]) (by decide +kernel) rfl (by decide +kernel) rfl rfl rfl rfl rfl rfl rfl (by omega) (fun d' hd' => fe_160 (by omega) w4) rfl ?_
  obtain ⟨v6, w7, h⟩ := fx_bd h
  refine fs_laload (p := 120) (by decide +kernel) rfl w7 ?_
  refine fs_lsub (p := 121) (by decide +kernel) rfl ?_
  refine fs_lstore_n (k := 2) (p := 122) (M := 7) (al' := [some (.ref 215), some (.int x1), some (.long (x2 - v6)), none, some (.int x4), o5, none]) (by decide +kernel) rfl mx_162 rfl rfl ?_
  refine fs_iinc (k := 4) (n := 1) (p := 125) (M := 7) (al' := [some (.ref 215), some (.int x1), some (.long (x2 - v6)), none, some (.int (x4 + (1 : Int32))), o5, none]) (by decide +kernel) rfl kc_1 mx_162 rfl rfl rfl ?_
  refine fs_goto (off := -115) (p := 10) (by decide +kernel) (by decide +kernel) ?_
  exact hk_10 _ _ _ _ _ _ h
def fm_162_73 (k_10 : Int32 → Int64 → Int32 → fx_S → Option (Int64 × fx_S)) (x1 : Int32) (x2 : Int64) (x4 : Int32) (x5 : Int64) (s1 : Int32) (s2 : Int64) (σ : fx_S) : Option (Int64 × fx_S) :=
  (fx_stl σ 224 s1 s2).bind fun t1 =>
  (fm_160 x1 x4 t1).bind fun q5 =>
  (fx_ld q5.2 223 x1).bind fun v6 =>
  if ¬ v6 = 0 then (
    (fx_ld q5.2 223 x1).bind fun v11 =>
    if ¬ (v11).toInt64 = 0 then (
    fm_162_107 k_10 x1 x2 x4 q5.1 (x5 - x5 / (v11).toInt64 * (v11).toInt64) q5.2) else none) else (
    fm_162_107 k_10 x1 x2 x4 q5.1 (0 : Int64) q5.2)
theorem fe_162_73 {d : Nat} (hd : 1 ≤ d) {k_10 : Int32 → Int64 → Int32 → fx_S → Option (Int64 × fx_S)} (hk_10 : ∀ (x1 : Int32) (x2 : Int64) (x4 : Int32) (o5 : Option Value) (σ : fx_S) (q : Int64 × fx_S), k_10 x1 x2 x4 σ = some q → fx_E none 162 d 10 [some (.ref 215), some (.int x1), some (.long x2), none, some (.int x4), o5, none] [] σ (some (.long q.1)) q.2) (x1 : Int32) (x2 : Int64) (x4 : Int32) (x5 : Int64) (s1 : Int32) (s2 : Int64) (σ : fx_S) (q : Int64 × fx_S) (h : fm_162_73 k_10  x1 x2 x4 x5 s1 s2 σ = some q) : fx_E none 162 d 73 [some (.ref 215), some (.int x1), some (.long x2), none, some (.int x4), some (.long x5), none] [.long s2, .int s1, .ref 224] σ (some (.long q.1)) q.2 := by
  unfold fm_162_73 at h
  obtain ⟨t1, w2, h⟩ := fx_bd h
  refine fs_lastore (p := 74) (by decide +kernel) rfl w2 ?_
  refine fs_aload_n (k := 0) (p := 75) (by decide +kernel) rfl rfl ?_
  refine fs_gfr (idx := 39) (ci := 10) (j := 16) (p := 78) (by decide +kernel) rfl (by decide +kernel) fo_215 (fr_a215_16) ?_
  refine fs_iload_n (k := 1) (p := 79) (by decide +kernel) rfl rfl ?_
  refine fs_iload (k := 4) (p := 81) (by decide +kernel) rfl rfl ?_
  obtain ⟨q5, w4, h⟩ := fx_bd h
  refine fs_callS (idx := 214) (mj := 160) (na := 2) (mx := 2) (p := 84) (args := [.int x1, .int x4]) (rest := [.ref 225]) (al2 := [some (.int x1), some (.int x4)]) (by decide +kernel) rfl (by decide +kernel) rfl rfl rfl rfl rfl rfl rfl (by omega) (fun d' hd' => fe_160 (by omega) w4) rfl ?_
  refine fs_aload_n (k := 0) (p := 85) (by decide +kernel) rfl rfl ?_
  refine fs_gfr (idx := 33) (ci := 10) (j := 14) (p := 88) (by decide +kernel) rfl (by decide +kernel) fo_215 (fr_a215_14) ?_
  refine fs_iload_n (k := 1) (p := 89) (by decide +kernel) rfl rfl ?_
  obtain ⟨v6, w7, h⟩ := fx_bd h
  refine fs_iaload (p := 90) (by decide +kernel) rfl w7 ?_
  by_cases c10 : ¬ v6 = 0
  · rw [if_pos c10] at h
    refine fs_if_ne_t (off := 7) (t := 97) (by decide +kernel) (by decide +kernel) c10 ?_
    refine fs_lload (k := 5) (p := 99) (by decide +kernel) rfl rfl ?_
    refine fs_aload_n (k := 0) (p := 100) (by decide +kernel) rfl rfl ?_
    refine fs_gfr (idx := 33) (ci := 10) (j := 14) (p := 103) (by decide +kernel) rfl (by decide +kernel) fo_215 (fr_a215_14) ?_
    refine fs_iload_n (k := 1) (p := 104) (by decide +kernel) rfl rfl ?_
    obtain ⟨v11, w12, h⟩ := fx_bd h
    refine fs_iaload (p := 105) (by decide +kernel) rfl w12 ?_
    refine fs_i2l (p := 106) (by decide +kernel) rfl ?_
    obtain ⟨z14, h⟩ := fx_gd h
    refine fs_lrem (p := 107) (by decide +kernel) rfl z14 ?_
    exact fe_162_107 hd hk_10 _ _ _ _ _ _ _ _ h
  · rw [if_neg c10] at h
    refine fs_if_ne_f (off := 7) (t := 97) (p := 93) (by decide +kernel) (by decide +kernel) rfl c10 ?_
    refine fs_lconst (n := 0) (p := 94) (by decide +kernel) rfl kl_0 ?_
    refine fs_goto (off := 13) (p := 107) (by decide +kernel) (by decide +kernel) ?_
    exact fe_162_107 hd hk_10 _ _ _ _ _ _ _ _ h
def fm_162_10 : Nat → Int32 → Int64 → Int32 → fx_S → Option (Int64 × fx_S)
  | 0, _, _, _, _ => none
  | n + 1, x1, x2, x4, σ =>
    if (σ.1 215 18) ≤ x4 then (
      (fx_ld σ 223 x1).bind fun v4 =>
      if ¬ v4 = 0 then (
        some (x2, σ)) else (
        some ((0 : Int64), σ))) else (
      (fx_ldl σ 221 x1).bind fun v9 =>
      (fm_160 x1 x4 σ).bind fun q13 =>
      (fx_ld q13.2 222 q13.1).bind fun v14 =>
      (fm_160 x1 x4 q13.2).bind fun q19 =>
      (fx_ld q19.2 223 x1).bind fun v20 =>
      if ¬ v20 = 0 then (
        (fx_ld q19.2 223 x1).bind fun v24 =>
        if ¬ (v24).toInt64 = 0 then (
        fm_162_73 (fm_162_10 n) x1 x2 x4 (v9 * (v14).toInt64) q19.1 ((v9 * (v14).toInt64) / (v24).toInt64) q19.2) else none) else (
        fm_162_73 (fm_162_10 n) x1 x2 x4 (v9 * (v14).toInt64) q19.1 (0 : Int64) q19.2))
theorem fe_162_10 {d : Nat} (hd : 1 ≤ d) : ∀ (n : Nat) (x1 : Int32) (x2 : Int64) (x4 : Int32) (o5 : Option Value) (σ : fx_S) (q : Int64 × fx_S), fm_162_10 n x1 x2 x4 σ = some q → fx_E none 162 d 10 [some (.ref 215), some (.int x1), some (.long x2), none, some (.int x4), o5, none] [] σ (some (.long q.1)) q.2 := by
  intro n
  induction n with
  | zero =>
    intro x1 x2 x4 o5 σ q  h
    rw [fm_162_10] at h
    exact fx_no h
  | succ n ih =>
    intro x1 x2 x4 o5 σ q  h
    rw [fm_162_10] at h
    refine fs_iload (k := 4) (p := 12) (by decide +kernel) rfl rfl ?_
    refine fs_aload_n (k := 0) (p := 13) (by decide +kernel) rfl rfl ?_
    refine fs_gfi (idx := 211) (ci := 10) (j := 18) (p := 16) (by decide +kernel) rfl (by decide +kernel) fo_215 ?_
    by_cases c3 : (σ.1 215 18) ≤ x4
    · rw [if_pos c3] at h
      refine fs_icmp_ge_t (off := 112) (t := 128) (by decide +kernel) (by decide +kernel) c3 ?_
      refine fs_aload_n (k := 0) (p := 129) (by decide +kernel) rfl rfl ?_
      refine fs_gfr (idx := 33) (ci := 10) (j := 14) (p := 132) (by decide +kernel) rfl (by decide +kernel) fo_215 (fr_a215_14) ?_
      refine fs_iload_n (k := 1) (p := 133) (by decide +kernel) rfl rfl ?_
      obtain ⟨v4, w5, h⟩ := fx_bd h
      refine fs_iaload (p := 134) (by decide +kernel) rfl w5 ?_
      by_cases c8 : ¬ v4 = 0
      · rw [if_pos c8] at h
        refine fs_if_ne_t (off := 7) (t := 141) (by decide +kernel) (by decide +kernel) c8 ?_
        refine fs_lload_n (k := 2) (p := 142) (by decide +kernel) rfl rfl ?_
        have h := Option.some.inj h
        subst h
        exact fs_lret (by decide +kernel) rt_162
      · rw [if_neg c8] at h
        refine fs_if_ne_f (off := 7) (t := 141) (p := 137) (by decide +kernel) (by decide +kernel) rfl c8 ?_
        refine fs_lconst (n := 0) (p := 138) (by decide +kernel) rfl kl_0 ?_
        refine fs_goto (off := 4) (p := 142) (by decide +kernel) (by decide +kernel) ?_
        have h := Option.some.inj h
        subst h
        exact fs_lret (by decide +kernel) rt_162
    · rw [if_neg c3] at h
      refine fs_icmp_ge_f (off := 112) (t := 128) (p := 19) (by decide +kernel) (by decide +kernel) rfl c3 ?_
      refine fs_aload_n (k := 0) (p := 20) (by decide +kernel) rfl rfl ?_
      refine fs_gfr (idx := 26) (ci := 10) (j := 12) (p := 23) (by decide +kernel) rfl (by decide +kernel) fo_215 (fr_a215_12) ?_
      refine fs_iload_n (k := 1) (p := 24) (by decide +kernel) rfl rfl ?_
      obtain ⟨v9, w10, h⟩ := fx_bd h
      refine fs_laload (p := 25) (by decide +kernel) rfl w10 ?_
      refine fs_aload_n (k := 0) (p := 26) (by decide +kernel) rfl rfl ?_
      refine fs_gfr (idx := 30) (ci := 10) (j := 13) (p := 29) (by decide +kernel) rfl (by decide +kernel) fo_215 (fr_a215_13) ?_
      refine fs_iload_n (k := 1) (p := 30) (by decide +kernel) rfl rfl ?_
      refine fs_iload (k := 4) (p := 32) (by decide +kernel) rfl rfl ?_
      obtain ⟨q13, w12, h⟩ := fx_bd h
      refine fs_callS (idx := 214) (mj := 160) (na := 2) (mx := 2) (p := 35) (args := [.int x1, .int x4]) (rest := [.ref 222, .long v9]) (al2 := [some (.int x1), some (.int x4)]) (by decide +kernel) rfl (by decide +kernel) rfl rfl rfl rfl rfl rfl rfl (by omega) (fun d' hd' => fe_160 (by omega) w12) rfl ?_
      obtain ⟨v14, w15, h⟩ := fx_bd h
      refine fs_iaload (p := 36) (by decide +kernel) rfl w15 ?_
      refine fs_i2l (p := 37) (by decide +kernel) rfl ?_
      refine fs_lmul (p := 38) (by decide +kernel) rfl ?_
      refine fs_lstore (k := 5) (p := 40) (M := 7) (al' := [some (.ref 215), some (.int x1), some (.long x2), none, some (.int x4), some (.long (v9 * (v14).toInt64)), none]) (by decide +kernel) rfl mx_162 rfl rfl ?_
      refine fs_aload_n (k := 0) (p := 41) (by decide +kernel) rfl rfl ?_
      refine fs_gfr (idx := 36) (ci := 10) (j := 15) (p := 44) (by decide +kernel) rfl (by decide +kernel) fo_215 (fr_a215_15) ?_
      refine fs_iload_n (k := 1) (p := 45) (by decide +kernel) rfl rfl ?_
      refine fs_iload (k := 4) (p := 47) (by decide +kernel) rfl rfl ?_
      obtain ⟨q19, w18, h⟩ := fx_bd h
      refine fs_callS (idx := 214) (mj := 160) (na := 2) (mx := 2) (p := 50) (args := [.int x1, .int x4]) (rest := [.ref 224]) (al2 := [some (.int x1), some (.int x4)]) (by decide +kernel) rfl (by decide +kernel) rfl rfl rfl rfl rfl rfl rfl (by omega) (fun d' hd' => fe_160 (by omega) w18) rfl ?_
      refine fs_aload_n (k := 0) (p := 51) (by decide +kernel) rfl rfl ?_
      refine fs_gfr (idx := 33) (ci := 10) (j := 14) (p := 54) (by decide +kernel) rfl (by decide +kernel) fo_215 (fr_a215_14) ?_
      refine fs_iload_n (k := 1) (p := 55) (by decide +kernel) rfl rfl ?_
      obtain ⟨v20, w21, h⟩ := fx_bd h
      refine fs_iaload (p := 56) (by decide +kernel) rfl w21 ?_
      by_cases c23 : ¬ v20 = 0
      · rw [if_pos c23] at h
        refine fs_if_ne_t (off := 7) (t := 63) (by decide +kernel) (by decide +kernel) c23 ?_
        refine fs_lload (k := 5) (p := 65) (by decide +kernel) rfl rfl ?_
        refine fs_aload_n (k := 0) (p := 66) (by decide +kernel) rfl rfl ?_
        refine fs_gfr (idx := 33) (ci := 10) (j := 14) (p := 69) (by decide +kernel) rfl (by decide +kernel) fo_215 (fr_a215_14) ?_
        refine fs_iload_n (k := 1) (p := 70) (by decide +kernel) rfl rfl ?_
        obtain ⟨v24, w25, h⟩ := fx_bd h
        refine fs_iaload (p := 71) (by decide +kernel) rfl w25 ?_
        refine fs_i2l (p := 72) (by decide +kernel) rfl ?_
        obtain ⟨z27, h⟩ := fx_gd h
        refine fs_ldiv (p := 73) (by decide +kernel) rfl z27 ?_
        exact fe_162_73 hd ih _ _ _ _ _ _ _ _ h
      · rw [if_neg c23] at h
        refine fs_if_ne_f (off := 7) (t := 63) (p := 59) (by decide +kernel) (by decide +kernel) rfl c23 ?_
        refine fs_lconst (n := 0) (p := 60) (by decide +kernel) rfl kl_0 ?_
        refine fs_goto (off := 13) (p := 73) (by decide +kernel) (by decide +kernel) ?_
        exact fe_162_73 hd ih _ _ _ _ _ _ _ _ h
def fm_162 (x1 : Int32) (σ : fx_S) : Option (Int64 × fx_S) :=
  (fx_ldl σ 221 x1).bind fun v80 =>
  fm_162_10 100000 x1 v80 (0 : Int32) σ
theorem fe_162 {d : Nat} (hd : 1 ≤ d) {x1 : Int32} {σ : fx_S} {q : Int64 × fx_S} (h : fm_162 x1 σ = some q) : fx_E none 162 d 0 [some (.ref 215), some (.int x1), none, none, none, none, none] [] σ (some (.long q.1)) q.2 := by
  unfold fm_162 at h
  refine fs_aload_n (k := 0) (p := 1) (by decide +kernel) rfl rfl ?_
  refine fs_gfr (idx := 26) (ci := 10) (j := 12) (p := 4) (by decide +kernel) rfl (by decide +kernel) fo_215 (fr_a215_12) ?_
  refine fs_iload_n (k := 1) (p := 5) (by decide +kernel) rfl rfl ?_
  obtain ⟨v80, w81, h⟩ := fx_bd h
  refine fs_laload (p := 6) (by decide +kernel) rfl w81 ?_
  refine fs_lstore_n (k := 2) (p := 7) (M := 7) (al' := [some (.ref 215), some (.int x1), some (.long v80), none, none, none, none]) (by decide +kernel) rfl mx_162 rfl rfl ?_
  refine fs_iconst (n := 0) (p := 8) (by decide +kernel) rfl kc_0 ?_
  refine fs_istore (k := 4) (p := 10) (M := 7) (al' := [some (.ref 215), some (.int x1), some (.long v80), none, some (.int (0 : Int32)), none, none]) (by decide +kernel) rfl mx_162 rfl rfl ?_
  exact fe_162_10 hd 100000 _ _ _ _ _ _ h

/-! ZoneSharesModel.givesByRests(I)V -/
theorem mx_163 : iv_mx 163 = 6 := by decide +kernel
theorem rt_163 : iv_rt 163 = none := by decide +kernel
def fm_163_79 (k_18 : Int32 → Int64 → Int32 → Int32 → fx_S → Option (fx_S)) (x1 : Int32) (x2 : Int64) (x4 : Int32) (x5 : Int32) (σ : fx_S) : Option (fx_S) :=
  k_18 x1 x2 x4 (x5 + (1 : Int32)) σ
theorem fe_163_79 {d : Nat} (hd : 2 ≤ d) {k_18 : Int32 → Int64 → Int32 → Int32 → fx_S → Option (fx_S)} (hk_18 : ∀ (x1 : Int32) (x2 : Int64) (x4 : Int32) (x5 : Int32) (σ : fx_S) (q : fx_S), k_18 x1 x2 x4 x5 σ = some q → fx_E none 163 d 18 [some (.ref 215), some (.int x1), some (.long x2), none, some (.int x4), some (.int x5)] [] σ none q) (x1 : Int32) (x2 : Int64) (x4 : Int32) (x5 : Int32) (σ : fx_S) (q : fx_S) (h : fm_163_79 k_18  x1 x2 x4 x5 σ = some q) : fx_E none 163 d 79 [some (.ref 215), some (.int x1), some (.long x2), none, some (.int x4), some (.int x5)] [] σ none q := by
  unfold fm_163_79 at h
  refine fs_iinc (k := 5) (n := 1) (p := 82) (M := 6) (al' := [some (.ref 215), some (.int x1), some (.long x2), none, some (.int x4), some (.int (x5 + (1 : Int32)))]) (by decide +kernel) rfl kc_1 mx_163 rfl rfl rfl ?_
  refine fs_goto (off := -64) (p := 18) (by decide +kernel) (by decide +kernel) ?_
  exact hk_18 _ _ _ _ _ _ h
def fm_163_75 (k_18 : Int32 → Int64 → Int32 → Int32 → fx_S → Option (fx_S)) (x1 : Int32) (x2 : Int64) (x5 : Int32) (σ : fx_S) : Option (fx_S) :=
  fm_163_79 k_18 x1 x2 x5 x5 σ
theorem fe_163_75 {d : Nat} (hd : 2 ≤ d) {k_18 : Int32 → Int64 → Int32 → Int32 → fx_S → Option (fx_S)} (hk_18 : ∀ (x1 : Int32) (x2 : Int64) (x4 : Int32) (x5 : Int32) (σ : fx_S) (q : fx_S), k_18 x1 x2 x4 x5 σ = some q → fx_E none 163 d 18 [some (.ref 215), some (.int x1), some (.long x2), none, some (.int x4), some (.int x5)] [] σ none q) (x1 : Int32) (x2 : Int64) (x5 : Int32) (o4 : Option Value) (σ : fx_S) (q : fx_S) (h : fm_163_75 k_18  x1 x2 x5 σ = some q) : fx_E none 163 d 75 [some (.ref 215), some (.int x1), some (.long x2), none, o4, some (.int x5)] [] σ none q := by
  unfold fm_163_75 at h
  refine fs_iload (k := 5) (p := 77) (by decide +kernel) rfl rfl ?_
  refine fs_istore (k := 4) (p := 79) (M := 6) (al' := [some (.ref 215), some (.int x1), some (.long x2), none, some (.int x5), some (.int x5)]) (by decide +kernel) rfl mx_163 rfl rfl ?_
  exact fe_163_79 hd hk_18 _ _ _ _ _ _ h
def fm_163_18 (k_6 : Int32 → Int64 → fx_S → Option (fx_S)) : Nat → Int32 → Int64 → Int32 → Int32 → fx_S → Option (fx_S)
  | 0, _, _, _, _, _ => none
  | n + 1, x1, x2, x4, x5, σ =>
    if (σ.1 215 18) ≤ x5 then (
      (fm_160 x1 x4 σ).bind fun q5 =>
      (fx_ldl q5.2 224 q5.1).bind fun v6 =>
      (fx_stl q5.2 224 q5.1 (v6 + (1 : Int64))).bind fun t9 =>
      (fm_160 x1 x4 t9).bind fun q12 =>
      (fx_stl q12.2 225 q12.1 (0 : Int64)).bind fun t13 =>
      k_6 x1 (x2 - (1 : Int64)) t13) else (
      (fm_160 x1 x5 σ).bind fun q17 =>
      (fx_ldl q17.2 225 q17.1).bind fun v18 =>
      if v18 ≤ (0 : Int64) then (
        fm_163_79 (fm_163_18 k_6 n) x1 x2 x4 x5 q17.2) else (
        if x4 = (-1 : Int32) then (
          fm_163_75 (fm_163_18 k_6 n) x1 x2 x5 q17.2) else (
          (fm_160 x1 x5 q17.2).bind fun q26 =>
          (fx_ldl q26.2 225 q26.1).bind fun v27 =>
          (fm_160 x1 x4 q26.2).bind fun q31 =>
          (fx_ldl q31.2 225 q31.1).bind fun v32 =>
          if v27 ≤ v32 then (
            fm_163_79 (fm_163_18 k_6 n) x1 x2 x4 x5 q31.2) else (
            fm_163_75 (fm_163_18 k_6 n) x1 x2 x5 q31.2))))
theorem fe_163_18 {d : Nat} (hd : 2 ≤ d) {k_6 : Int32 → Int64 → fx_S → Option (fx_S)} (hk_6 : ∀ (x1 : Int32) (x2 : Int64) (o4 : Option Value) (o5 : Option Value) (σ : fx_S) (q : fx_S), k_6 x1 x2 σ = some q → fx_E none 163 d 6 [some (.ref 215), some (.int x1), some (.long x2), none, o4, o5] [] σ none q) : ∀ (n : Nat) (x1 : Int32) (x2 : Int64) (x4 : Int32) (x5 : Int32) (σ : fx_S) (q : fx_S), fm_163_18 k_6 n x1 x2 x4 x5 σ = some q → fx_E none 163 d 18 [some (.ref 215), some (.int x1), some (.long x2), none, some (.int x4), some (.int x5)] [] σ none q := by
  intro n
  induction n with
  | zero =>
    intro x1 x2 x4 x5 σ q  h
    rw [fm_163_18] at h
    exact fx_no h
  | succ n ih =>
    intro x1 x2 x4 x5 σ q  h
    rw [fm_163_18] at h
    refine fs_iload (k := 5) (p := 20) (by decide +kernel) rfl rfl ?_
    refine fs_aload_n (k := 0) (p := 21) (by decide +kernel) rfl rfl ?_
    refine fs_gfi (idx := 211) (ci := 10) (j := 18) (p := 24) (by decide +kernel) rfl (by decide +kernel) fo_215 ?_
    by_cases c3 : (σ.1 215 18) ≤ x5
    · rw [if_pos c3] at h
      refine fs_icmp_ge_t (off := 61) (t := 85) (by decide +kernel) (by decide +kernel) c3 ?_
      refine fs_aload_n (k := 0) (p := 86) (by decide +kernel) rfl rfl ?_
      refine fs_gfr (idx := 36) (ci := 10) (j := 15) (p := 89) (by decide +kernel) rfl (by decide +kernel) fo_215 (fr_a215_15) ?_
      refine fs_iload_n (k := 1) (p := 90) (by decide +kernel) rfl rfl ?_
      refine fs_iload (k := 4) (p := 92) (by decide +kernel) rfl rfl ?_
      obtain ⟨q5, w4, h⟩ := fx_bd h
      refine fs_callS (idx := 214) (mj := 160) (na := 2) (mx := 2) (p := 95) (args := [.int x1, .int x4]) (rest := [.ref 224]) (al2 := [some (.int x1), some (.int x4)]) (by decide +kernel) rfl (by decide +kernel) rfl rfl rfl rfl rfl rfl rfl (by omega) (fun d' hd' => fe_160 (by omega) w4) rfl ?_
      refine fs_dup2 (p := 96) (by decide +kernel) rfl rfl rfl ?_
      obtain ⟨v6, w7, h⟩ := fx_bd h
      refine fs_laload (p := 97) (by decide +kernel) rfl w7 ?_
      refine fs_lconst (n := 1) (p := 98) (by decide +kernel) rfl kl_1 ?_
      refine fs_ladd (p := 99) (by decide +kernel) rfl ?_
      obtain ⟨t9, w10, h⟩ := fx_bd h
      refine fs_lastore (p := 100) (by decide +kernel) rfl w10 ?_
      refine fs_aload_n (k := 0) (p := 101) (by decide +kernel) rfl rfl ?_
      refine fs_gfr (idx := 39) (ci := 10) (j := 16) (p := 104) (by decide +kernel) rfl (by decide +kernel) fo_215 (fr_a215_16) ?_
      refine fs_iload_n (k := 1) (p := 105) (by decide +kernel) rfl rfl ?_
      refine fs_iload (k := 4) (p := 107) (by decide +kernel) rfl rfl ?_
      obtain ⟨q12, w11, h⟩ := fx_bd h
      refine fs_callS (idx := 214) (mj := 160) (na := 2) (mx := 2) (p := 110) (args := [.int x1, .int x4]) (rest := [.ref 225]) (al2 := [some (.int x1), some (.int x4)]) (by decide +kernel) rfl (by decide +kernel) rfl rfl rfl rfl rfl rfl rfl (by omega) (fun d' hd' => fe_160 (by omega) w11) rfl ?_
      refine fs_lconst (n := 0) (p := 111) (by decide +kernel) rfl kl_0 ?_
      obtain ⟨t13, w14, h⟩ := fx_bd h
      refine fs_lastore (p := 112) (by decide +kernel) rfl w14 ?_
      refine fs_lload_n (k := 2) (p := 113) (by decide +kernel) rfl rfl ?_
      refine fs_lconst (n := 1) (p := 114) (by decide +kernel) rfl kl_1 ?_
      refine fs_lsub (p := 115) (by decide +kernel) rfl ?_
      refine fs_lstore_n (k := 2) (p := 116) (M := 6) (al' := [some (.ref 215), some (.int x1), some (.long (x2 - (1 : Int64))), none, some (.int x4), some (.int x5)]) (by decide +kernel) rfl mx_163 rfl rfl ?_
      refine fs_goto (off := -110) (p := 6) (by decide +kernel) (by decide +kernel) ?_
      exact hk_6 _ _ _ _ _ _ h
    · rw [if_neg c3] at h
      refine fs_icmp_ge_f (off := 61) (t := 85) (p := 27) (by decide +kernel) (by decide +kernel) rfl c3 ?_
      refine fs_aload_n (k := 0) (p := 28) (by decide +kernel) rfl rfl ?_
      refine fs_gfr (idx := 39) (ci := 10) (j := 16) (p := 31) (by decide +kernel) rfl (by decide +kernel) fo_215 (fr_a215_16) ?_
      refine fs_iload_n (k := 1) (p := 32) (by decide +kernel) rfl rfl ?_
      refine fs_iload (k := 5) (p := 34) (by decide +kernel) rfl rfl ?_
      obtain ⟨q17, w16, h⟩ := fx_bd h
      refine fs_callS (idx := 214) (mj := 160) (na := 2) (mx := 2) (p := 37) (args := [.int x1, .int x5]) (rest := [.ref 225]) (al2 := [some (.int x1), some (.int x5)]) (by decide +kernel) rfl (by decide +kernel) rfl rfl rfl rfl rfl rfl rfl (by omega) (fun d' hd' => fe_160 (by omega) w16) rfl ?_
      obtain ⟨v18, w19, h⟩ := fx_bd h
      refine fs_laload (p := 38) (by decide +kernel) rfl w19 ?_
      refine fs_lconst (n := 0) (p := 39) (by decide +kernel) rfl kl_0 ?_
      by_cases c22 : v18 ≤ (0 : Int64)
      · rw [if_pos c22] at h
        refine fs_lcmp_le_t (off := 39) (t := 79) (by decide +kernel) (by decide +kernel) (by decide +kernel) c22 ?_
        exact fe_163_79 hd ih _ _ _ _ _ _ h
      · rw [if_neg c22] at h
        refine fs_lcmp_le_f (off := 39) (t := 79) (p := 43) (by decide +kernel) (by decide +kernel) (by decide +kernel) rfl c22 ?_
        refine fs_iload (k := 4) (p := 45) (by decide +kernel) rfl rfl ?_
        refine fs_iconst (n := -1) (p := 46) (by decide +kernel) rfl kc_m1 ?_
        by_cases c24 : x4 = (-1 : Int32)
        · rw [if_pos c24] at h
          refine fs_icmp_eq_t (off := 29) (t := 75) (by decide +kernel) (by decide +kernel) c24 ?_
          exact fe_163_75 hd ih _ _ _ _ _ _ h
        · rw [if_neg c24] at h
          refine fs_icmp_eq_f (off := 29) (t := 75) (p := 49) (by decide +kernel) (by decide +kernel) rfl c24 ?_
          refine fs_aload_n (k := 0) (p := 50) (by decide +kernel) rfl rfl ?_
          refine fs_gfr (idx := 39) (ci := 10) (j := 16) (p := 53) (by decide +kernel) rfl (by decide +kernel) fo_215 (fr_a215_16) ?_
          refine fs_iload_n (k := 1) (p := 54) (by decide +kernel) rfl rfl ?_
          refine fs_iload (k := 5) (p := 56) (by decide +kernel) rfl rfl ?_
          obtain ⟨q26, w25, h⟩ := fx_bd h
          refine fs_callS (idx := 214) (mj := 160) (na := 2) (mx := 2) (p := 59) (args := [.int x1, .int x5]) (rest := [.ref 225]) (al2 := [some (.int x1), some (.int x5)]) (by decide +kernel) rfl (by decide +kernel) rfl rfl rfl rfl rfl rfl rfl (by omega) (fun d' hd' => fe_160 (by omega) w25) rfl ?_
          obtain ⟨v27, w28, h⟩ := fx_bd h
          refine fs_laload (p := 60) (by decide +kernel) rfl w28 ?_
          refine fs_aload_n (k := 0) (p := 61) (by decide +kernel) rfl rfl ?_
          refine fs_gfr (idx := 39) (ci := 10) (j := 16) (p := 64) (by decide +kernel) rfl (by decide +kernel) fo_215 (fr_a215_16) ?_
          refine fs_iload_n (k := 1) (p := 65) (by decide +kernel) rfl rfl ?_
          refine fs_iload (k := 4) (p := 67) (by decide +kernel) rfl rfl ?_
          obtain ⟨q31, w30, h⟩ := fx_bd h
          refine fs_callS (idx := 214) (mj := 160) (na := 2) (mx := 2) (p := 70) (args := [.int x1, .int x4]) (rest := [.ref 225, .long v27]) (al2 := [some (.int x1), some (.int x4)]) (by decide +kernel) rfl (by decide +kernel) rfl rfl rfl rfl rfl rfl rfl (by omega) (fun d' hd' => fe_160 (by omega) w30) rfl ?_
          obtain ⟨v32, w33, h⟩ := fx_bd h
          refine fs_laload (p := 71) (by decide +kernel) rfl w33 ?_
          by_cases c37 : v27 ≤ v32
          · rw [if_pos c37] at h
            refine fs_lcmp_le_t (off := 7) (t := 79) (by decide +kernel) (by decide +kernel) (by decide +kernel) c37 ?_
            exact fe_163_79 hd ih _ _ _ _ _ _ h
          · rw [if_neg c37] at h
            refine fs_lcmp_le_f (off := 7) (t := 79) (p := 75) (by decide +kernel) (by decide +kernel) (by decide +kernel) rfl c37 ?_
            exact fe_163_75 hd ih _ _ _ _ _ _ h
def fm_163_6 : Nat → Int32 → Int64 → fx_S → Option (fx_S)
  | 0, _, _, _ => none
  | n + 1, x1, x2, σ =>
    if x2 ≤ (0 : Int64) then (
      some σ) else (
      fm_163_18 (fm_163_6 n) 100000 x1 x2 (-1 : Int32) (0 : Int32) σ)
theorem fe_163_6 {d : Nat} (hd : 2 ≤ d) : ∀ (n : Nat) (x1 : Int32) (x2 : Int64) (o4 : Option Value) (o5 : Option Value) (σ : fx_S) (q : fx_S), fm_163_6 n x1 x2 σ = some q → fx_E none 163 d 6 [some (.ref 215), some (.int x1), some (.long x2), none, o4, o5] [] σ none q := by
  intro n
  induction n with
  | zero =>
    intro x1 x2 o4 o5 σ q  h
    rw [fm_163_6] at h
    exact fx_no h
  | succ n ih =>
    intro x1 x2 o4 o5 σ q  h
    rw [fm_163_6] at h
    refine fs_lload_n (k := 2) (p := 7) (by decide +kernel) rfl rfl ?_
    refine fs_lconst (n := 0) (p := 8) (by decide +kernel) rfl kl_0 ?_
    by_cases c2 : x2 ≤ (0 : Int64)
    · rw [if_pos c2] at h
      refine fs_lcmp_le_t (off := 110) (t := 119) (by decide +kernel) (by decide +kernel) (by decide +kernel) c2 ?_
      have h := Option.some.inj h
      subst h
      exact fs_ret (by decide +kernel) rt_163
    · rw [if_neg c2] at h
      refine fs_lcmp_le_f (off := 110) (t := 119) (p := 12) (by decide +kernel) (by decide +kernel) (by decide +kernel) rfl c2 ?_
      refine fs_iconst (n := -1) (p := 13) (by decide +kernel) rfl kc_m1 ?_
      refine fs_istore (k := 4) (p := 15) (M := 6) (al' := [some (.ref 215), some (.int x1), some (.long x2), none, some (.int (-1 : Int32)), o5]) (by decide +kernel) rfl mx_163 rfl rfl ?_
      refine fs_iconst (n := 0) (p := 16) (by decide +kernel) rfl kc_0 ?_
      refine fs_istore (k := 5) (p := 18) (M := 6) (al' := [some (.ref 215), some (.int x1), some (.long x2), none, some (.int (-1 : Int32)), some (.int (0 : Int32))]) (by decide +kernel) rfl mx_163 rfl rfl ?_
      exact fe_163_18 hd ih 100000 _ _ _ _ _ _ h
def fm_163 (x1 : Int32) (σ : fx_S) : Option (fx_S) :=
  (fm_162 x1 σ).bind fun q45 =>
  fm_163_6 100000 x1 q45.1 q45.2
theorem fe_163 {d : Nat} (hd : 2 ≤ d) {x1 : Int32} {σ : fx_S} {q : fx_S} (h : fm_163 x1 σ = some q) : fx_E none 163 d 0 [some (.ref 215), some (.int x1), none, none, none, none] [] σ none q := by
  unfold fm_163 at h
  refine fs_aload_n (k := 0) (p := 1) (by decide +kernel) rfl rfl ?_
  refine fs_iload_n (k := 1) (p := 2) (by decide +kernel) rfl rfl ?_
  obtain ⟨q45, w44, h⟩ := fx_bd h
  refine fs_callV (idx := 217) (mj := 162) (ci := 10) (na := 1) (mx := 7) (p := 5) (args := [.ref 215, .int x1]) (rest := []) (al2 := [some (.ref 215), some (.int x1), none, none, none, none, none]) (by decide +kernel) rfl (by decide +kernel) fo_215 rfl rfl rfl rfl rfl rfl rfl (by omega) (fun d' hd' => fe_162 (by omega) w44) rfl ?_
  refine fs_lstore_n (k := 2) (p := 6) (M := 6) (al' := [some (.ref 215), some (.int x1), some (.long q45.1), none, none, none]) (by decide +kernel) rfl mx_163 rfl rfl ?_
  exact fe_163_6 hd 100000 _ _ _ _ _ _ h

/-! ZoneSharesModel.divisor(JJ)J -/
theorem mx_164 : iv_mx 164 = 10 := by decide +kernel
theorem rt_164 : iv_rt 164 = some .long := by decide +kernel
def fm_164_6 : Nat → Int64 → Int64 → fx_S → Option (Int64 × fx_S)
  | 0, _, _, _ => none
  | n + 1, x4, x6, σ =>
    if x6 = (0 : Int64) then (
      some (x4, σ)) else (
      if ¬ x6 = 0 then (
      fm_164_6 n x6 (x4 - x4 / x6 * x6) σ) else none)
theorem fe_164_6 {d : Nat} (hd : 0 ≤ d) : ∀ (n : Nat) (x4 : Int64) (x6 : Int64) (o0 : Option Value) (o2 : Option Value) (o8 : Option Value) (σ : fx_S) (q : Int64 × fx_S), fm_164_6 n x4 x6 σ = some q → fx_E none 164 d 6 [o0, none, o2, none, some (.long x4), none, some (.long x6), none, o8, none] [] σ (some (.long q.1)) q.2 := by
  intro n
  induction n with
  | zero =>
    intro x4 x6 o0 o2 o8 σ q  h
    rw [fm_164_6] at h
    exact fx_no h
  | succ n ih =>
    intro x4 x6 o0 o2 o8 σ q  h
    rw [fm_164_6] at h
    refine fs_lload (k := 6) (p := 8) (by decide +kernel) rfl rfl ?_
    refine fs_lconst (n := 0) (p := 9) (by decide +kernel) rfl kl_0 ?_
    by_cases c2 : x6 = (0 : Int64)
    · rw [if_pos c2] at h
      refine fs_lcmp_eq_t (off := 21) (t := 31) (by decide +kernel) (by decide +kernel) (by decide +kernel) c2 ?_
      refine fs_lload (k := 4) (p := 33) (by decide +kernel) rfl rfl ?_
      have h := Option.some.inj h
      subst h
      exact fs_lret (by decide +kernel) rt_164
    · rw [if_neg c2] at h
      refine fs_lcmp_eq_f (off := 21) (t := 31) (p := 13) (by decide +kernel) (by decide +kernel) (by decide +kernel) rfl c2 ?_
      refine fs_lload (k := 4) (p := 15) (by decide +kernel) rfl rfl ?_
      refine fs_lload (k := 6) (p := 17) (by decide +kernel) rfl rfl ?_
      obtain ⟨z4, h⟩ := fx_gd h
      refine fs_lrem (p := 18) (by decide +kernel) rfl z4 ?_
      refine fs_lstore (k := 8) (p := 20) (M := 10) (al' := [o0, none, o2, none, some (.long x4), none, some (.long x6), none, some (.long (x4 - x4 / x6 * x6)), none]) (by decide +kernel) rfl mx_164 rfl rfl ?_
      refine fs_lload (k := 6) (p := 22) (by decide +kernel) rfl rfl ?_
      refine fs_lstore (k := 4) (p := 24) (M := 10) (al' := [o0, none, o2, none, some (.long x6), none, some (.long x6), none, some (.long (x4 - x4 / x6 * x6)), none]) (by decide +kernel) rfl mx_164 rfl rfl ?_
      refine fs_lload (k := 8) (p := 26) (by decide +kernel) rfl rfl ?_
      refine fs_lstore (k := 6) (p := 28) (M := 10) (al' := [o0, none, o2, none, some (.long x6), none, some (.long (x4 - x4 / x6 * x6)), none, some (.long (x4 - x4 / x6 * x6)), none]) (by decide +kernel) rfl mx_164 rfl rfl ?_
      refine fs_goto (off := -22) (p := 6) (by decide +kernel) (by decide +kernel) ?_
      exact ih _ _ _ _ _ _ _ h
def fm_164 (x0 : Int64) (x2 : Int64) (σ : fx_S) : Option (Int64 × fx_S) :=
  fm_164_6 100000 x0 x2 σ
theorem fe_164 {d : Nat} (hd : 0 ≤ d) {x0 : Int64} {x2 : Int64} {σ : fx_S} {q : Int64 × fx_S} (h : fm_164 x0 x2 σ = some q) : fx_E none 164 d 0 [some (.long x0), none, some (.long x2), none, none, none, none, none, none, none] [] σ (some (.long q.1)) q.2 := by
  unfold fm_164 at h
  refine fs_lload_n (k := 0) (p := 1) (by decide +kernel) rfl rfl ?_
  refine fs_lstore (k := 4) (p := 3) (M := 10) (al' := [some (.long x0), none, some (.long x2), none, some (.long x0), none, none, none, none, none]) (by decide +kernel) rfl mx_164 rfl rfl ?_
  refine fs_lload_n (k := 2) (p := 4) (by decide +kernel) rfl rfl ?_
  refine fs_lstore (k := 6) (p := 6) (M := 10) (al' := [some (.long x0), none, some (.long x2), none, some (.long x0), none, some (.long x2), none, none, none]) (by decide +kernel) rfl mx_164 rfl rfl ?_
  exact fe_164_6 hd 100000 _ _ _ _ _ _ _ h

/-! ZoneSharesModel.addsPart(JJ)V -/
theorem mx_165 : iv_mx 165 = 9 := by decide +kernel
theorem rt_165 : iv_rt 165 = none := by decide +kernel
def fm_165 (x1 : Int64) (x3 : Int64) (σ : fx_S) : Option (fx_S) :=
  (fm_164 (σ.2 215 30) x3 σ).bind fun q10 =>
  if ¬ q10.1 = 0 then (
  if ¬ (q10.2.2 215 30) = 0 then (
  if ¬ x3 = 0 then (
  some (fx_w2 (fx_w2 q10.2 215 29 (((q10.2.2 215 29) * ((((q10.2.2 215 30) / q10.1) * x3) / (q10.2.2 215 30))) + (x1 * ((((q10.2.2 215 30) / q10.1) * x3) / x3)))) 215 30 (((q10.2.2 215 30) / q10.1) * x3))) else none) else none) else none
theorem fe_165 {d : Nat} (hd : 1 ≤ d) {x1 : Int64} {x3 : Int64} {σ : fx_S} {q : fx_S} (h : fm_165 x1 x3 σ = some q) : fx_E none 165 d 0 [some (.ref 215), some (.long x1), none, some (.long x3), none, none, none, none, none] [] σ none q := by
  unfold fm_165 at h
  refine fs_aload_n (k := 0) (p := 1) (by decide +kernel) rfl rfl ?_
  refine fs_gfl (idx := 221) (ci := 10) (j := 30) (p := 4) (by decide +kernel) rfl (by decide +kernel) fo_215 ?_
  refine fs_lload_n (k := 3) (p := 5) (by decide +kernel) rfl rfl ?_
  obtain ⟨q10, w9, h⟩ := fx_bd h
  refine fs_callS (idx := 225) (mj := 164) (na := 2) (mx := 10) (p := 8) (args := [.long (σ.2 215 30), .long x3]) (rest := []) (al2 := [some (.long (σ.2 215 30)), none, some (.long x3), none, none, none, none, none, none, none]) (by decide +kernel) rfl (by decide +kernel) rfl rfl rfl rfl rfl rfl rfl (by omega) (fun d' hd' => fe_164 (by omega) w9) rfl ?_
  refine fs_lstore (k := 5) (p := 10) (M := 9) (al' := [some (.ref 215), some (.long x1), none, some (.long x3), none, some (.long q10.1), none, none, none]) (by decide +kernel) rfl mx_165 rfl rfl ?_
  refine fs_aload_n (k := 0) (p := 11) (by decide +kernel) rfl rfl ?_
  refine fs_gfl (idx := 221) (ci := 10) (j := 30) (p := 14) (by decide +kernel) rfl (by decide +kernel) fo_215 ?_
  refine fs_lload (k := 5) (p := 16) (by decide +kernel) rfl rfl ?_
  obtain ⟨z12, h⟩ := fx_gd h
  refine fs_ldiv (p := 17) (by decide +kernel) rfl z12 ?_
  refine fs_lload_n (k := 3) (p := 18) (by decide +kernel) rfl rfl ?_
  refine fs_lmul (p := 19) (by decide +kernel) rfl ?_
  refine fs_lstore (k := 7) (p := 21) (M := 9) (al' := [some (.ref 215), some (.long x1), none, some (.long x3), none, some (.long q10.1), none, some (.long (((q10.2.2 215 30) / q10.1) * x3)), none]) (by decide +kernel) rfl mx_165 rfl rfl ?_
  refine fs_aload_n (k := 0) (p := 22) (by decide +kernel) rfl rfl ?_
  refine fs_aload_n (k := 0) (p := 23) (by decide +kernel) rfl rfl ?_
  refine fs_gfl (idx := 229) (ci := 10) (j := 29) (p := 26) (by decide +kernel) rfl (by decide +kernel) fo_215 ?_
  refine fs_lload (k := 7) (p := 28) (by decide +kernel) rfl rfl ?_
  refine fs_aload_n (k := 0) (p := 29) (by decide +kernel) rfl rfl ?_
  refine fs_gfl (idx := 221) (ci := 10) (j := 30) (p := 32) (by decide +kernel) rfl (by decide +kernel) fo_215 ?_
  obtain ⟨z14, h⟩ := fx_gd h
  refine fs_ldiv (p := 33) (by decide +kernel) rfl z14 ?_
  refine fs_lmul (p := 34) (by decide +kernel) rfl ?_
  refine fs_lload_n (k := 1) (p := 35) (by decide +kernel) rfl rfl ?_
  refine fs_lload (k := 7) (p := 37) (by decide +kernel) rfl rfl ?_
  refine fs_lload_n (k := 3) (p := 38) (by decide +kernel) rfl rfl ?_
  obtain ⟨z16, h⟩ := fx_gd h
  refine fs_ldiv (p := 39) (by decide +kernel) rfl z16 ?_
  refine fs_lmul (p := 40) (by decide +kernel) rfl ?_
  refine fs_ladd (p := 41) (by decide +kernel) rfl ?_
  refine fs_pfl (idx := 229) (ci := 10) (j := 29) (p := 44) (by decide +kernel) rfl (by decide +kernel) (by decide +kernel) fo_215 ?_
  refine fs_aload_n (k := 0) (p := 45) (by decide +kernel) rfl rfl ?_
  refine fs_lload (k := 7) (p := 47) (by decide +kernel) rfl rfl ?_
  refine fs_pfl (idx := 221) (ci := 10) (j := 30) (p := 50) (by decide +kernel) rfl (by decide +kernel) (by decide +kernel) fo_215 ?_
  have h := Option.some.inj h
  subst h
  exact fs_ret (by decide +kernel) rt_165

/-! ZoneSharesModel.laysColumn(I)V -/
theorem mx_166 : iv_mx 166 = 3 := by decide +kernel
theorem rt_166 : iv_rt 166 = none := by decide +kernel
def fm_166_107 (s1 : Int32) (s2 : Int64) (s3 : Int32) (σ : fx_S) : Option (fx_S) :=
  (fm_131 s3 σ).bind fun q2 =>
  (fx_stl q2.2 228 s1 (s2 + (q2.1).toInt64)).bind fun t4 =>
  some t4
theorem fe_166_107 {d : Nat} (hd : 2 ≤ d) (s1 : Int32) (s2 : Int64) (s3 : Int32) (o0 : Option Value) (o1 : Option Value) (o2 : Option Value) (σ : fx_S) (q : fx_S) (h : fm_166_107  s1 s2 s3 σ = some q) : fx_E none 166 d 107 [o0, o1, o2] [.int s3, .long s2, .int s1, .ref 228] σ none q := by
  unfold fm_166_107 at h
  obtain ⟨q2, w1, h⟩ := fx_bd h
  refine fs_callS (idx := 186) (mj := 131) (na := 1) (mx := 1) (p := 110) (args := [.int s3]) (rest := [.long s2, .int s1, .ref 228]) (al2 := [some (.int s3)]) (by decide +kernel) rfl (by decide +kernel) rfl rfl rfl rfl rfl rfl rfl (by omega) (fun d' hd' => fe_131 (by omega) w1) rfl ?_
  refine fs_i2l (p := 111) (by decide +kernel) rfl ?_
  refine fs_ladd (p := 112) (by decide +kernel) rfl ?_
  obtain ⟨t4, w5, h⟩ := fx_bd h
  refine fs_lastore (p := 113) (by decide +kernel) rfl w5 ?_
  have h := Option.some.inj h
  subst h
  exact fs_ret (by decide +kernel) rt_166
def fm_166_56 (k_12 : Int32 → Int32 → fx_S → Option (fx_S)) (x1 : Int32) (x2 : Int32) (σ : fx_S) : Option (fx_S) :=
  k_12 x1 (x2 + (1 : Int32)) σ
theorem fe_166_56 {d : Nat} (hd : 2 ≤ d) {k_12 : Int32 → Int32 → fx_S → Option (fx_S)} (hk_12 : ∀ (x1 : Int32) (x2 : Int32) (σ : fx_S) (q : fx_S), k_12 x1 x2 σ = some q → fx_E none 166 d 12 [some (.ref 215), some (.int x1), some (.int x2)] [] σ none q) (x1 : Int32) (x2 : Int32) (σ : fx_S) (q : fx_S) (h : fm_166_56 k_12  x1 x2 σ = some q) : fx_E none 166 d 56 [some (.ref 215), some (.int x1), some (.int x2)] [] σ none q := by
  unfold fm_166_56 at h
  refine fs_iinc (k := 2) (n := 1) (p := 59) (M := 3) (al' := [some (.ref 215), some (.int x1), some (.int (x2 + (1 : Int32)))]) (by decide +kernel) rfl kc_1 mx_166 rfl rfl rfl ?_
  refine fs_goto (off := -47) (p := 12) (by decide +kernel) (by decide +kernel) ?_
  exact hk_12 _ _ _ _ h
def fm_166_12 : Nat → Int32 → Int32 → fx_S → Option (fx_S)
  | 0, _, _, _ => none
  | n + 1, x1, x2, σ =>
    if (σ.1 215 17) ≤ x2 then (
      if ¬ (σ.2 215 30) = 0 then (
      (fx_stl σ 227 x1 ((σ.2 215 29) / (σ.2 215 30))).bind fun t6 =>
      (fx_ldl t6 227 x1).bind fun v9 =>
      if ¬ (t6.2 215 30) = 0 then (
      if ((t6.2 215 29) - (t6.2 215 29) / (t6.2 215 30) * (t6.2 215 30)) ≤ (0 : Int64) then (
        fm_166_107 x1 v9 (0 : Int32) t6) else (
        fm_166_107 x1 v9 (1 : Int32) t6)) else none) else none) else (
      (fm_160 x2 x1 σ).bind fun q16 =>
      (fx_ldl q16.2 225 q16.1).bind fun v17 =>
      if v17 ≤ (0 : Int64) then (
        fm_166_56 (fm_166_12 n) x1 x2 q16.2) else (
        (fm_160 x2 x1 q16.2).bind fun q23 =>
        (fx_ldl q23.2 225 q23.1).bind fun v24 =>
        (fx_ld q23.2 223 x2).bind fun v27 =>
        (fm_165 v24 (v27).toInt64 q23.2).bind fun q32 =>
        fm_166_56 (fm_166_12 n) x1 x2 q32))
theorem fe_166_12 {d : Nat} (hd : 2 ≤ d) : ∀ (n : Nat) (x1 : Int32) (x2 : Int32) (σ : fx_S) (q : fx_S), fm_166_12 n x1 x2 σ = some q → fx_E none 166 d 12 [some (.ref 215), some (.int x1), some (.int x2)] [] σ none q := by
  intro n
  induction n with
  | zero =>
    intro x1 x2 σ q  h
    rw [fm_166_12] at h
    exact fx_no h
  | succ n ih =>
    intro x1 x2 σ q  h
    rw [fm_166_12] at h
    refine fs_iload_n (k := 2) (p := 13) (by decide +kernel) rfl rfl ?_
    refine fs_aload_n (k := 0) (p := 14) (by decide +kernel) rfl rfl ?_
    refine fs_gfi (idx := 208) (ci := 10) (j := 17) (p := 17) (by decide +kernel) rfl (by decide +kernel) fo_215 ?_
    by_cases c3 : (σ.1 215 17) ≤ x2
    · rw [if_pos c3] at h
      refine fs_icmp_ge_t (off := 45) (t := 62) (by decide +kernel) (by decide +kernel) c3 ?_
      refine fs_aload_n (k := 0) (p := 63) (by decide +kernel) rfl rfl ?_
      refine fs_gfr (idx := 45) (ci := 10) (j := 20) (p := 66) (by decide +kernel) rfl (by decide +kernel) fo_215 (fr_a215_20) ?_
      refine fs_iload_n (k := 1) (p := 67) (by decide +kernel) rfl rfl ?_
      refine fs_aload_n (k := 0) (p := 68) (by decide +kernel) rfl rfl ?_
      refine fs_gfl (idx := 229) (ci := 10) (j := 29) (p := 71) (by decide +kernel) rfl (by decide +kernel) fo_215 ?_
      refine fs_aload_n (k := 0) (p := 72) (by decide +kernel) rfl rfl ?_
      refine fs_gfl (idx := 221) (ci := 10) (j := 30) (p := 75) (by decide +kernel) rfl (by decide +kernel) fo_215 ?_
      obtain ⟨z5, h⟩ := fx_gd h
      refine fs_ldiv (p := 76) (by decide +kernel) rfl z5 ?_
      obtain ⟨t6, w7, h⟩ := fx_bd h
      refine fs_lastore (p := 77) (by decide +kernel) rfl w7 ?_
      refine fs_aload_n (k := 0) (p := 78) (by decide +kernel) rfl rfl ?_
      refine fs_gfr (idx := 48) (ci := 10) (j := 21) (p := 81) (by decide +kernel) rfl (by decide +kernel) fo_215 (fr_a215_21) ?_
      refine fs_iload_n (k := 1) (p := 82) (by decide +kernel) rfl rfl ?_
      refine fs_aload_n (k := 0) (p := 83) (by decide +kernel) rfl rfl ?_
      refine fs_gfr (idx := 45) (ci := 10) (j := 20) (p := 86) (by decide +kernel) rfl (by decide +kernel) fo_215 (fr_a215_20) ?_
      refine fs_iload_n (k := 1) (p := 87) (by decide +kernel) rfl rfl ?_
      obtain ⟨v9, w10, h⟩ := fx_bd h
      refine fs_laload (p := 88) (by decide +kernel) rfl w10 ?_
      refine fs_aload_n (k := 0) (p := 89) (by decide +kernel) rfl rfl ?_
      refine fs_gfl (idx := 229) (ci := 10) (j := 29) (p := 92) (by decide +kernel) rfl (by decide +kernel) fo_215 ?_
      refine fs_aload_n (k := 0) (p := 93) (by decide +kernel) rfl rfl ?_
      refine fs_gfl (idx := 221) (ci := 10) (j := 30) (p := 96) (by decide +kernel) rfl (by decide +kernel) fo_215 ?_
      obtain ⟨z12, h⟩ := fx_gd h
      refine fs_lrem (p := 97) (by decide +kernel) rfl z12 ?_
      refine fs_lconst (n := 0) (p := 98) (by decide +kernel) rfl kl_0 ?_
      by_cases c14 : ((t6.2 215 29) - (t6.2 215 29) / (t6.2 215 30) * (t6.2 215 30)) ≤ (0 : Int64)
      · rw [if_pos c14] at h
        refine fs_lcmp_le_t (off := 7) (t := 106) (by decide +kernel) (by decide +kernel) (by decide +kernel) c14 ?_
        refine fs_iconst (n := 0) (p := 107) (by decide +kernel) rfl kc_0 ?_
        exact fe_166_107 hd _ _ _ _ _ _ _ _ h
      · rw [if_neg c14] at h
        refine fs_lcmp_le_f (off := 7) (t := 106) (p := 102) (by decide +kernel) (by decide +kernel) (by decide +kernel) rfl c14 ?_
        refine fs_iconst (n := 1) (p := 103) (by decide +kernel) rfl kc_1 ?_
        refine fs_goto (off := 4) (p := 107) (by decide +kernel) (by decide +kernel) ?_
        exact fe_166_107 hd _ _ _ _ _ _ _ _ h
    · rw [if_neg c3] at h
      refine fs_icmp_ge_f (off := 45) (t := 62) (p := 20) (by decide +kernel) (by decide +kernel) rfl c3 ?_
      refine fs_aload_n (k := 0) (p := 21) (by decide +kernel) rfl rfl ?_
      refine fs_gfr (idx := 39) (ci := 10) (j := 16) (p := 24) (by decide +kernel) rfl (by decide +kernel) fo_215 (fr_a215_16) ?_
      refine fs_iload_n (k := 2) (p := 25) (by decide +kernel) rfl rfl ?_
      refine fs_iload_n (k := 1) (p := 26) (by decide +kernel) rfl rfl ?_
      obtain ⟨q16, w15, h⟩ := fx_bd h
      refine fs_callS (idx := 214) (mj := 160) (na := 2) (mx := 2) (p := 29) (args := [.int x2, .int x1]) (rest := [.ref 225]) (al2 := [some (.int x2), some (.int x1)]) (by decide +kernel) rfl (by decide +kernel) rfl rfl rfl rfl rfl rfl rfl (by omega) (fun d' hd' => fe_160 (by omega) w15) rfl ?_
      obtain ⟨v17, w18, h⟩ := fx_bd h
      refine fs_laload (p := 30) (by decide +kernel) rfl w18 ?_
      refine fs_lconst (n := 0) (p := 31) (by decide +kernel) rfl kl_0 ?_
      by_cases c21 : v17 ≤ (0 : Int64)
      · rw [if_pos c21] at h
        refine fs_lcmp_le_t (off := 24) (t := 56) (by decide +kernel) (by decide +kernel) (by decide +kernel) c21 ?_
        exact fe_166_56 hd ih _ _ _ _ h
      · rw [if_neg c21] at h
        refine fs_lcmp_le_f (off := 24) (t := 56) (p := 35) (by decide +kernel) (by decide +kernel) (by decide +kernel) rfl c21 ?_
        refine fs_aload_n (k := 0) (p := 36) (by decide +kernel) rfl rfl ?_
        refine fs_aload_n (k := 0) (p := 37) (by decide +kernel) rfl rfl ?_
        refine fs_gfr (idx := 39) (ci := 10) (j := 16) (p := 40) (by decide +kernel) rfl (by decide +kernel) fo_215 (fr_a215_16) ?_
        refine fs_iload_n (k := 2) (p := 41) (by decide +kernel) rfl rfl ?_
        refine fs_iload_n (k := 1) (p := 42) (by decide +kernel) rfl rfl ?_
        obtain ⟨q23, w22, h⟩ := fx_bd h
        refine fs_callS (idx := 214) (mj := 160) (na := 2) (mx := 2) (p := 45) (args := [.int x2, .int x1]) (rest := [.ref 225, .ref 215]) (al2 := [some (.int x2), some (.int x1)]) (by decide +kernel) rfl (by decide +kernel) rfl rfl rfl rfl rfl rfl rfl (by omega) (fun d' hd' => fe_160 (by omega) w22) rfl ?_
        obtain ⟨v24, w25, h⟩ := fx_bd h
        refine fs_laload (p := 46) (by decide +kernel) rfl w25 ?_
        refine fs_aload_n (k := 0) (p := 47) (by decide +kernel) rfl rfl ?_
        refine fs_gfr (idx := 33) (ci := 10) (j := 14) (p := 50) (by decide +kernel) rfl (by decide +kernel) fo_215 (fr_a215_14) ?_
        refine fs_iload_n (k := 2) (p := 51) (by decide +kernel) rfl rfl ?_
        obtain ⟨v27, w28, h⟩ := fx_bd h
        refine fs_iaload (p := 52) (by decide +kernel) rfl w28 ?_
        refine fs_i2l (p := 53) (by decide +kernel) rfl ?_
        obtain ⟨q32, w31, h⟩ := fx_bd h
        refine fs_callV (idx := 232) (mj := 165) (ci := 10) (na := 2) (mx := 9) (p := 56) (args := [.ref 215, .long v24, .long (v27).toInt64]) (rest := []) (al2 := [some (.ref 215), some (.long v24), none, some (.long (v27).toInt64), none, none, none, none, none]) (by decide +kernel) rfl (by decide +kernel) fo_215 rfl rfl rfl rfl rfl rfl rfl (by omega) (fun d' hd' => fe_165 (by omega) w31) rfl ?_
        exact fe_166_56 hd ih _ _ _ _ h
def fm_166 (x1 : Int32) (σ : fx_S) : Option (fx_S) :=
  fm_166_12 100000 x1 (0 : Int32) (fx_w2 (fx_w2 σ 215 29 (0 : Int64)) 215 30 (1 : Int64))
theorem fe_166 {d : Nat} (hd : 2 ≤ d) {x1 : Int32} {σ : fx_S} {q : fx_S} (h : fm_166 x1 σ = some q) : fx_E none 166 d 0 [some (.ref 215), some (.int x1), none] [] σ none q := by
  unfold fm_166 at h
  refine fs_aload_n (k := 0) (p := 1) (by decide +kernel) rfl rfl ?_
  refine fs_lconst (n := 0) (p := 2) (by decide +kernel) rfl kl_0 ?_
  refine fs_pfl (idx := 229) (ci := 10) (j := 29) (p := 5) (by decide +kernel) rfl (by decide +kernel) (by decide +kernel) fo_215 ?_
  refine fs_aload_n (k := 0) (p := 6) (by decide +kernel) rfl rfl ?_
  refine fs_lconst (n := 1) (p := 7) (by decide +kernel) rfl kl_1 ?_
  refine fs_pfl (idx := 221) (ci := 10) (j := 30) (p := 10) (by decide +kernel) rfl (by decide +kernel) (by decide +kernel) fo_215 ?_
  refine fs_iconst (n := 0) (p := 11) (by decide +kernel) rfl kc_0 ?_
  refine fs_istore_n (k := 2) (p := 12) (M := 3) (al' := [some (.ref 215), some (.int x1), some (.int (0 : Int32))]) (by decide +kernel) rfl mx_166 rfl rfl ?_
  exact fe_166_12 hd 100000 _ _ _ _ h
