/-! ZoneSharesModel.canBe()Z -/
theorem mx_171 : iv_mx 171 = 3 := by decide +kernel
theorem rt_171 : iv_rt 171 = some .boolean := by decide +kernel
def fm_171_254 : Nat → Int32 → fx_S → Option (Bool × fx_S)
  | 0, _, _ => none
  | n + 1, x1, σ =>
    if (σ.1 215 17) ≤ x1 then (
      some (true, σ)) else (
      (fx_ldl σ 231 x1).bind fun v4 =>
      if v4 = (0 : Int64) then (
        fm_171_254 n (x1 + (1 : Int32)) σ) else (
        some (false, σ)))
theorem fe_171_254 {d : Nat} (hd : 28 ≤ d) : ∀ (n : Nat) (x1 : Int32) (o2 : Option Value) (σ : fx_S) (q : Bool × fx_S), fm_171_254 n x1 σ = some q → fx_E none 171 d 254 [some (.ref 215), some (.int x1), o2] [] σ (some (.int (fx_b q.1))) q.2 := by
  intro n
  induction n with
  | zero =>
    intro x1 o2 σ q  h
    rw [fm_171_254] at h
    exact fx_no h
  | succ n ih =>
    intro x1 o2 σ q  h
    rw [fm_171_254] at h
    refine fs_iload_n (k := 1) (p := 255) (by decide +kernel) rfl rfl ?_
    refine fs_aload_n (k := 0) (p := 256) (by decide +kernel) rfl rfl ?_
    refine fs_gfi (idx := 208) (ci := 10) (j := 17) (p := 259) (by decide +kernel) rfl (by decide +kernel) fo_215 ?_
    by_cases c3 : (σ.1 215 17) ≤ x1
    · rw [if_pos c3] at h
      refine fs_icmp_ge_t (off := 22) (t := 281) (by decide +kernel) (by decide +kernel) c3 ?_
      refine fs_iconst (n := 1) (p := 282) (by decide +kernel) rfl kc_1 ?_
      have h := Option.some.inj h
      subst h
      exact fs_zret (b := true) (by decide +kernel) rt_171
    · rw [if_neg c3] at h
      refine fs_icmp_ge_f (off := 22) (t := 281) (p := 262) (by decide +kernel) (by decide +kernel) rfl c3 ?_
      refine fs_aload_n (k := 0) (p := 263) (by decide +kernel) rfl rfl ?_
      refine fs_gfr (idx := 57) (ci := 10) (j := 24) (p := 266) (by decide +kernel) rfl (by decide +kernel) fo_215 (fr_a215_24) ?_
      refine fs_iload_n (k := 1) (p := 267) (by decide +kernel) rfl rfl ?_
      obtain ⟨v4, w5, h⟩ := fx_bd h
      refine fs_laload (p := 268) (by decide +kernel) rfl w5 ?_
      refine fs_lconst (n := 0) (p := 269) (by decide +kernel) rfl kl_0 ?_
      by_cases c8 : v4 = (0 : Int64)
      · rw [if_pos c8] at h
        refine fs_lcmp_eq_t (off := 5) (t := 275) (by decide +kernel) (by decide +kernel) (by decide +kernel) c8 ?_
        refine fs_iinc (k := 1) (n := 1) (p := 278) (M := 3) (al' := [some (.ref 215), some (.int (x1 + (1 : Int32))), o2]) (by decide +kernel) rfl kc_1 mx_171 rfl rfl rfl ?_
        refine fs_goto (off := -24) (p := 254) (by decide +kernel) (by decide +kernel) ?_
        exact ih _ _ _ _ h
      · rw [if_neg c8] at h
        refine fs_lcmp_eq_f (off := 5) (t := 275) (p := 273) (by decide +kernel) (by decide +kernel) (by decide +kernel) rfl c8 ?_
        refine fs_iconst (n := 0) (p := 274) (by decide +kernel) rfl kc_0 ?_
        have h := Option.some.inj h
        subst h
        exact fs_zret (b := false) (by decide +kernel) rt_171
def fm_171_188 : Nat → Int32 → fx_S → Option (Bool × fx_S)
  | 0, _, _ => none
  | n + 1, x1, σ =>
    if (σ.1 215 18) ≤ x1 then (
      (fm_170 σ).bind fun q5 =>
      fm_171_254 100000 (0 : Int32) q5) else (
      (fx_ldl σ 230 x1).bind fun v6 =>
      (fx_ldl σ 227 x1).bind fun v9 =>
      if v6 < v9 then (
        some (false, σ)) else (
        (fx_ldl σ 230 x1).bind fun v14 =>
        (fx_ldl σ 228 x1).bind fun v16 =>
        if v14 ≤ v16 then (
          (fx_ldl σ 228 x1).bind fun v20 =>
          (fx_stl σ 229 x1 v20).bind fun t22 =>
          fm_171_188 n (x1 + (1 : Int32)) t22) else (
          some (false, σ))))
theorem fe_171_188 {d : Nat} (hd : 28 ≤ d) : ∀ (n : Nat) (x1 : Int32) (o2 : Option Value) (σ : fx_S) (q : Bool × fx_S), fm_171_188 n x1 σ = some q → fx_E none 171 d 188 [some (.ref 215), some (.int x1), o2] [] σ (some (.int (fx_b q.1))) q.2 := by
  intro n
  induction n with
  | zero =>
    intro x1 o2 σ q  h
    rw [fm_171_188] at h
    exact fx_no h
  | succ n ih =>
    intro x1 o2 σ q  h
    rw [fm_171_188] at h
    refine fs_iload_n (k := 1) (p := 189) (by decide +kernel) rfl rfl ?_
    refine fs_aload_n (k := 0) (p := 190) (by decide +kernel) rfl rfl ?_
    refine fs_gfi (idx := 211) (ci := 10) (j := 18) (p := 193) (by decide +kernel) rfl (by decide +kernel) fo_215 ?_
    by_cases c3 : (σ.1 215 18) ≤ x1
    · rw [if_pos c3] at h
      refine fs_icmp_ge_t (off := 55) (t := 248) (by decide +kernel) (by decide +kernel) c3 ?_
      refine fs_aload_n (k := 0) (p := 249) (by decide +kernel) rfl rfl ?_
      obtain ⟨q5, w4, h⟩ := fx_bd h
      refine fs_callV (idx := 245) (mj := 170) (ci := 10) (na := 0) (mx := 4) (p := 252) (args := [.ref 215]) (rest := []) (al2 := [some (.ref 215), none, none, none]) (by decide +kernel) rfl (by decide +kernel) fo_215 rfl rfl rfl rfl rfl rfl rfl (by omega) (fun d' hd' => fe_170 (by omega) w4) rfl ?_
      refine fs_iconst (n := 0) (p := 253) (by decide +kernel) rfl kc_0 ?_
      refine fs_istore_n (k := 1) (p := 254) (M := 3) (al' := [some (.ref 215), some (.int (0 : Int32)), o2]) (by decide +kernel) rfl mx_171 rfl rfl ?_
      exact fe_171_254 hd 100000 _ _ _ _ h
    · rw [if_neg c3] at h
      refine fs_icmp_ge_f (off := 55) (t := 248) (p := 196) (by decide +kernel) (by decide +kernel) rfl c3 ?_
      refine fs_aload_n (k := 0) (p := 197) (by decide +kernel) rfl rfl ?_
      refine fs_gfr (idx := 54) (ci := 10) (j := 23) (p := 200) (by decide +kernel) rfl (by decide +kernel) fo_215 (fr_a215_23) ?_
      refine fs_iload_n (k := 1) (p := 201) (by decide +kernel) rfl rfl ?_
      obtain ⟨v6, w7, h⟩ := fx_bd h
      refine fs_laload (p := 202) (by decide +kernel) rfl w7 ?_
      refine fs_aload_n (k := 0) (p := 203) (by decide +kernel) rfl rfl ?_
      refine fs_gfr (idx := 45) (ci := 10) (j := 20) (p := 206) (by decide +kernel) rfl (by decide +kernel) fo_215 (fr_a215_20) ?_
      refine fs_iload_n (k := 1) (p := 207) (by decide +kernel) rfl rfl ?_
      obtain ⟨v9, w10, h⟩ := fx_bd h
      refine fs_laload (p := 208) (by decide +kernel) rfl w10 ?_
      by_cases c13 : v6 < v9
      · rw [if_pos c13] at h
        refine fs_lcmp_lt_t (off := 19) (t := 228) (by decide +kernel) (by decide +kernel) (by decide +kernel) c13 ?_
        refine fs_iconst (n := 0) (p := 229) (by decide +kernel) rfl kc_0 ?_
        have h := Option.some.inj h
        subst h
        exact fs_zret (b := false) (by decide +kernel) rt_171
      · rw [if_neg c13] at h
        refine fs_lcmp_lt_f (off := 19) (t := 228) (p := 212) (by decide +kernel) (by decide +kernel) (by decide +kernel) rfl c13 ?_
        refine fs_aload_n (k := 0) (p := 213) (by decide +kernel) rfl rfl ?_
        refine fs_gfr (idx := 54) (ci := 10) (j := 23) (p := 216) (by decide +kernel) rfl (by decide +kernel) fo_215 (fr_a215_23) ?_
        refine fs_iload_n (k := 1) (p := 217) (by decide +kernel) rfl rfl ?_
        obtain ⟨v14, w15, h⟩ := fx_bd h
        refine fs_laload (p := 218) (by decide +kernel) rfl w15 ?_
        refine fs_aload_n (k := 0) (p := 219) (by decide +kernel) rfl rfl ?_
        refine fs_gfr (idx := 48) (ci := 10) (j := 21) (p := 222) (by decide +kernel) rfl (by decide +kernel) fo_215 (fr_a215_21) ?_
        refine fs_iload_n (k := 1) (p := 223) (by decide +kernel) rfl rfl ?_
        obtain ⟨v16, w17, h⟩ := fx_bd h
        refine fs_laload (p := 224) (by decide +kernel) rfl w17 ?_
        by_cases c19 : v14 ≤ v16
        · rw [if_pos c19] at h
          refine fs_lcmp_le_t (off := 5) (t := 230) (by decide +kernel) (by decide +kernel) (by decide +kernel) c19 ?_
          refine fs_aload_n (k := 0) (p := 231) (by decide +kernel) rfl rfl ?_
          refine fs_gfr (idx := 51) (ci := 10) (j := 22) (p := 234) (by decide +kernel) rfl (by decide +kernel) fo_215 (fr_a215_22) ?_
          refine fs_iload_n (k := 1) (p := 235) (by decide +kernel) rfl rfl ?_
          refine fs_aload_n (k := 0) (p := 236) (by decide +kernel) rfl rfl ?_
          refine fs_gfr (idx := 48) (ci := 10) (j := 21) (p := 239) (by decide +kernel) rfl (by decide +kernel) fo_215 (fr_a215_21) ?_
          refine fs_iload_n (k := 1) (p := 240) (by decide +kernel) rfl rfl ?_
          obtain ⟨v20, w21, h⟩ := fx_bd h
          refine fs_laload (p := 241) (by decide +kernel) rfl w21 ?_
          obtain ⟨t22, w23, h⟩ := fx_bd h
          refine fs_lastore (p := 242) (by decide +kernel) rfl w23 ?_
          refine fs_iinc (k := 1) (n := 1) (p := 245) (M := 3) (al' := [some (.ref 215), some (.int (x1 + (1 : Int32))), o2]) (by decide +kernel) rfl kc_1 mx_171 rfl rfl rfl ?_
          refine fs_goto (off := -57) (p := 188) (by decide +kernel) (by decide +kernel) ?_
          exact ih _ _ _ _ h
        · rw [if_neg c19] at h
          refine fs_lcmp_le_f (off := 5) (t := 230) (p := 228) (by decide +kernel) (by decide +kernel) (by decide +kernel) rfl c19 ?_
          refine fs_iconst (n := 0) (p := 229) (by decide +kernel) rfl kc_0 ?_
          have h := Option.some.inj h
          subst h
          exact fs_zret (b := false) (by decide +kernel) rt_171
def fm_171_123 (k_75 : Int32 → Int32 → fx_S → Option (Bool × fx_S)) (x1 : Int32) (x2 : Int32) (s1 : Int32) (s2 : Int32) (σ : fx_S) : Option (Bool × fx_S) :=
  (fx_stb σ 232 s1 s2).bind fun t1 =>
  (fx_ldl t1 231 x1).bind fun v4 =>
  (fm_160 x1 x2 t1).bind fun q8 =>
  (fx_ldb q8.2 232 q8.1).bind fun v9 =>
  (fm_131 v9 q8.2).bind fun q13 =>
  (fx_stl q13.2 231 x1 (v4 - (q13.1).toInt64)).bind fun t15 =>
  (fx_ldl t15 230 x2).bind fun v17 =>
  (fm_160 x1 x2 t15).bind fun q21 =>
  (fx_ldb q21.2 232 q21.1).bind fun v22 =>
  (fm_131 v22 q21.2).bind fun q26 =>
  (fx_stl q26.2 230 x2 (v17 + (q26.1).toInt64)).bind fun t28 =>
  k_75 x1 (x2 + (1 : Int32)) t28
theorem fe_171_123 {d : Nat} (hd : 28 ≤ d) {k_75 : Int32 → Int32 → fx_S → Option (Bool × fx_S)} (hk_75 : ∀ (x1 : Int32) (x2 : Int32) (σ : fx_S) (q : Bool × fx_S), k_75 x1 x2 σ = some q → fx_E none 171 d 75 [some (.ref 215), some (.int x1), some (.int x2)] [] σ (some (.int (fx_b q.1))) q.2) (x1 : Int32) (x2 : Int32) (s1 : Int32) (s2 : Int32) (σ : fx_S) (q : Bool × fx_S) (h : fm_171_123 k_75  x1 x2 s1 s2 σ = some q) : fx_E none 171 d 123 [some (.ref 215), some (.int x1), some (.int x2)] [.int s2, .int s1, .ref 232] σ (some (.int (fx_b q.1))) q.2 := by
  unfold fm_171_123 at h
  obtain ⟨t1, w2, h⟩ := fx_bd h
  refine fs_bastore (p := 124) (by decide +kernel) rfl w2 ?_
  refine fs_aload_n (k := 0) (p := 125) (by decide +kernel) rfl rfl ?_
  refine fs_gfr (idx := 57) (ci := 10) (j := 24) (p := 128) (by decide +kernel) rfl (by decide +kernel) fo_215 (fr_a215_24) ?_
  refine fs_iload_n (k := 1) (p := 129) (by decide +kernel) rfl rfl ?_
  refine fs_dup2 (p := 130) (by decide +kernel) rfl rfl rfl ?_
  obtain ⟨v4, w5, h⟩ := fx_bd h
  refine fs_laload (p := 131) (by decide +kernel) rfl w5 ?_
  refine fs_aload_n (k := 0) (p := 132) (by decide +kernel) rfl rfl ?_
  refine fs_gfr (idx := 60) (ci := 10) (j := 25) (p := 135) (by decide +kernel) rfl (by decide +kernel) fo_215 (fr_a215_25) ?_
  refine fs_iload_n (k := 1) (p := 136) (by decide +kernel) rfl rfl ?_
  refine fs_iload_n (k := 2) (p := 137) (by decide +kernel) rfl rfl ?_
  obtain ⟨q8, w7, h⟩ := fx_bd h
  refine fs_callS (idx := 214) (mj := 160) (na := 2) (mx := 2) (p := 140) (args := [.int x1, .int x2]) (rest := [.ref 232, .long v4, .int x1, .ref 231]) (al2 := [some (.int x1), some (.int x2)]) (by decide +kernel) rfl (by decide +kernel) rfl rfl rfl rfl rfl rfl rfl (by omega) (fun d' hd' => fe_160 (by omega) w7) rfl ?_
  obtain ⟨v9, w10, h⟩ := fx_bd h
  refine fs_baload (p := 141) (by decide +kernel) rfl w10 ?_
  obtain ⟨q13, w12, h⟩ := fx_bd h
  refine fs_callS (idx := 186) (mj := 131) (na := 1) (mx := 1) (p := 144) (args := [.int v9]) (rest := [.long v4, .int x1, .ref 231]) (al2 := [some (.int v9)]) (by decide +kernel) rfl (by decide +kernel) rfl rfl rfl rfl rfl rfl rfl (by omega) (fun d' hd' => fe_131 (by omega) w12) rfl ?_
  refine fs_i2l (p := 145) (by decide +kernel) rfl ?_
  refine fs_lsub (p := 146) (by decide +kernel) rfl ?_
  obtain ⟨t15, w16, h⟩ := fx_bd h
  refine fs_lastore (p := 147) (by decide +kernel) rfl w16 ?_
  refine fs_aload_n (k := 0) (p := 148) (by decide +kernel) rfl rfl ?_
  refine fs_gfr (idx := 54) (ci := 10) (j := 23) (p := 151) (by decide +kernel) rfl (by decide +kernel) fo_215 (fr_a215_23) ?_
  refine fs_iload_n (k := 2) (p := 152) (by decide +kernel) rfl rfl ?_
  refine fs_dup2 (p := 153) (by decide +kernel) rfl rfl rfl ?_
  obtain ⟨v17, w18, h⟩ := fx_bd h
  refine fs_laload (p := 154) (by decide +kernel) rfl w18 ?_
  refine fs_aload_n (k := 0) (p := 155) (by decide +kernel) rfl rfl ?_
  refine fs_gfr (idx := 60) (ci := 10) (j := 25) (p := 158) (by decide +kernel) rfl (by decide +kernel) fo_215 (fr_a215_25) ?_
  refine fs_iload_n (k := 1) (p := 159) (by decide +kernel) rfl rfl ?_
  refine fs_iload_n (k := 2) (p := 160) (by decide +kernel) rfl rfl ?_
  obtain ⟨q21, w20, h⟩ := fx_bd h
  refine fs_callS (idx := 214) (mj := 160) (na := 2) (mx := 2) (p := 163) (args := [.int x1, .int x2]) (rest := [.ref 232, .long v17, .int x2, .ref 230]) (al2 := [some (.int x1), some (.int x2)]) (by decide +kernel) rfl (by decide +kernel) rfl rfl rfl rfl rfl rfl rfl (by omega) (fun d' hd' => fe_160 (by omega) w20) rfl ?_
  obtain ⟨v22, w23, h⟩ := fx_bd h
  refine fs_baload (p := 164) (by decide +kernel) rfl w23 ?_
  obtain ⟨q26, w25, h⟩ := fx_bd h
  refine fs_callS (idx := 186) (mj := 131) (na := 1) (mx := 1) (p := 167) (args := [.int v22]) (rest := [.long v17, .int x2, .ref 230]) (al2 := [some (.int v22)]) (by decide +kernel) rfl (by decide +kernel) rfl rfl rfl rfl rfl rfl rfl (by omega) (fun d' hd' => fe_131 (by omega) w25) rfl ?_
  refine fs_i2l (p := 168) (by decide +kernel) rfl ?_
  refine fs_ladd (p := 169) (by decide +kernel) rfl ?_
  obtain ⟨t28, w29, h⟩ := fx_bd h
  refine fs_lastore (p := 170) (by decide +kernel) rfl w29 ?_
  refine fs_iinc (k := 2) (n := 1) (p := 173) (M := 3) (al' := [some (.ref 215), some (.int x1), some (.int (x2 + (1 : Int32)))]) (by decide +kernel) rfl kc_1 mx_171 rfl rfl rfl ?_
  refine fs_goto (off := -98) (p := 75) (by decide +kernel) (by decide +kernel) ?_
  exact hk_75 _ _ _ _ h
def fm_171_75 (k_65 : Int32 → fx_S → Option (Bool × fx_S)) : Nat → Int32 → Int32 → fx_S → Option (Bool × fx_S)
  | 0, _, _, _ => none
  | n + 1, x1, x2, σ =>
    if (σ.1 215 18) ≤ x2 then (
      k_65 (x1 + (1 : Int32)) σ) else (
      (fm_160 x1 x2 σ).bind fun q5 =>
      (fm_160 x1 x2 q5.2).bind fun q7 =>
      (fx_ldb q7.2 233 q7.1).bind fun v8 =>
      if v8 = 0 then (
        fm_171_123 (fm_171_75 k_65 n) x1 x2 q5.1 (0 : Int32) q7.2) else (
        (fm_160 x1 x2 q7.2).bind fun q14 =>
        (fx_ldb q14.2 234 q14.1).bind fun v15 =>
        if v15 = 0 then (
          fm_171_123 (fm_171_75 k_65 n) x1 x2 q5.1 (0 : Int32) q14.2) else (
          fm_171_123 (fm_171_75 k_65 n) x1 x2 q5.1 (1 : Int32) q14.2)))
theorem fe_171_75 {d : Nat} (hd : 28 ≤ d) {k_65 : Int32 → fx_S → Option (Bool × fx_S)} (hk_65 : ∀ (x1 : Int32) (o2 : Option Value) (σ : fx_S) (q : Bool × fx_S), k_65 x1 σ = some q → fx_E none 171 d 65 [some (.ref 215), some (.int x1), o2] [] σ (some (.int (fx_b q.1))) q.2) : ∀ (n : Nat) (x1 : Int32) (x2 : Int32) (σ : fx_S) (q : Bool × fx_S), fm_171_75 k_65 n x1 x2 σ = some q → fx_E none 171 d 75 [some (.ref 215), some (.int x1), some (.int x2)] [] σ (some (.int (fx_b q.1))) q.2 := by
  intro n
  induction n with
  | zero =>
    intro x1 x2 σ q  h
    rw [fm_171_75] at h
    exact fx_no h
  | succ n ih =>
    intro x1 x2 σ q  h
    rw [fm_171_75] at h
    refine fs_iload_n (k := 2) (p := 76) (by decide +kernel) rfl rfl ?_
    refine fs_aload_n (k := 0) (p := 77) (by decide +kernel) rfl rfl ?_
    refine fs_gfi (idx := 211) (ci := 10) (j := 18) (p := 80) (by decide +kernel) rfl (by decide +kernel) fo_215 ?_
    by_cases c3 : (σ.1 215 18) ≤ x2
    · rw [if_pos c3] at h
      refine fs_icmp_ge_t (off := 96) (t := 176) (by decide +kernel) (by decide +kernel) c3 ?_
      refine fs_iinc (k := 1) (n := 1) (p := 179) (M := 3) (al' := [some (.ref 215), some (.int (x1 + (1 : Int32))), some (.int x2)]) (by decide +kernel) rfl kc_1 mx_171 rfl rfl rfl ?_
      refine fs_goto (off := -114) (p := 65) (by decide +kernel) (by decide +kernel) ?_
      exact hk_65 _ _ _ _ h
    · rw [if_neg c3] at h
      refine fs_icmp_ge_f (off := 96) (t := 176) (p := 83) (by decide +kernel) (by decide +kernel) rfl c3 ?_
      refine fs_aload_n (k := 0) (p := 84) (by decide +kernel) rfl rfl ?_
      refine fs_gfr (idx := 60) (ci := 10) (j := 25) (p := 87) (by decide +kernel) rfl (by decide +kernel) fo_215 (fr_a215_25) ?_
      refine fs_iload_n (k := 1) (p := 88) (by decide +kernel) rfl rfl ?_
      refine fs_iload_n (k := 2) (p := 89) (by decide +kernel) rfl rfl ?_
      obtain ⟨q5, w4, h⟩ := fx_bd h
      refine fs_callS (idx := 214) (mj := 160) (na := 2) (mx := 2) (p := 92) (args := [.int x1, .int x2]) (rest := [.ref 232]) (al2 := [some (.int x1), some (.int x2)]) (by decide +kernel) rfl (by decide +kernel) rfl rfl rfl rfl rfl rfl rfl (by omega) (fun d' hd' => fe_160 (by omega) w4) rfl ?_
      refine fs_aload_n (k := 0) (p := 93) (by decide +kernel) rfl rfl ?_
      refine fs_gfr (idx := 64) (ci := 10) (j := 26) (p := 96) (by decide +kernel) rfl (by decide +kernel) fo_215 (fr_a215_26) ?_
      refine fs_iload_n (k := 1) (p := 97) (by decide +kernel) rfl rfl ?_
      refine fs_iload_n (k := 2) (p := 98) (by decide +kernel) rfl rfl ?_
      obtain ⟨q7, w6, h⟩ := fx_bd h
      refine fs_callS (idx := 214) (mj := 160) (na := 2) (mx := 2) (p := 101) (args := [.int x1, .int x2]) (rest := [.ref 233, .int q5.1, .ref 232]) (al2 := [some (.int x1), some (.int x2)]) (by decide +kernel) rfl (by decide +kernel) rfl rfl rfl rfl rfl rfl rfl (by omega) (fun d' hd' => fe_160 (by omega) w6) rfl ?_
      obtain ⟨v8, w9, h⟩ := fx_bd h
      refine fs_baload (p := 102) (by decide +kernel) rfl w9 ?_
      by_cases c12 : v8 = 0
      · rw [if_pos c12] at h
        refine fs_if_eq_t (off := 20) (t := 122) (by decide +kernel) (by decide +kernel) c12 ?_
        refine fs_iconst (n := 0) (p := 123) (by decide +kernel) rfl kc_0 ?_
        exact fe_171_123 hd ih _ _ _ _ _ _ h
      · rw [if_neg c12] at h
        refine fs_if_eq_f (off := 20) (t := 122) (p := 105) (by decide +kernel) (by decide +kernel) rfl c12 ?_
        refine fs_aload_n (k := 0) (p := 106) (by decide +kernel) rfl rfl ?_
        refine fs_gfr (idx := 67) (ci := 10) (j := 27) (p := 109) (by decide +kernel) rfl (by decide +kernel) fo_215 (fr_a215_27) ?_
        refine fs_iload_n (k := 1) (p := 110) (by decide +kernel) rfl rfl ?_
        refine fs_iload_n (k := 2) (p := 111) (by decide +kernel) rfl rfl ?_
        obtain ⟨q14, w13, h⟩ := fx_bd h
        refine fs_callS (idx := 214) (mj := 160) (na := 2) (mx := 2) (p := 114) (args := [.int x1, .int x2]) (rest := [.ref 234, .int q5.1, .ref 232]) (al2 := [some (.int x1), some (.int x2)]) (by decide +kernel) rfl (by decide +kernel) rfl rfl rfl rfl rfl rfl rfl (by omega) (fun d' hd' => fe_160 (by omega) w13) rfl ?_
        obtain ⟨v15, w16, h⟩ := fx_bd h
        refine fs_baload (p := 115) (by decide +kernel) rfl w16 ?_
        by_cases c19 : v15 = 0
        · rw [if_pos c19] at h
          refine fs_if_eq_t (off := 7) (t := 122) (by decide +kernel) (by decide +kernel) c19 ?_
          refine fs_iconst (n := 0) (p := 123) (by decide +kernel) rfl kc_0 ?_
          exact fe_171_123 hd ih _ _ _ _ _ _ h
        · rw [if_neg c19] at h
          refine fs_if_eq_f (off := 7) (t := 122) (p := 118) (by decide +kernel) (by decide +kernel) rfl c19 ?_
          refine fs_iconst (n := 1) (p := 119) (by decide +kernel) rfl kc_1 ?_
          refine fs_goto (off := 4) (p := 123) (by decide +kernel) (by decide +kernel) ?_
          exact fe_171_123 hd ih _ _ _ _ _ _ h
def fm_171_65 : Nat → Int32 → fx_S → Option (Bool × fx_S)
  | 0, _, _ => none
  | n + 1, x1, σ =>
    if (σ.1 215 17) ≤ x1 then (
      (fm_170 σ).bind fun q5 =>
      fm_171_188 100000 (0 : Int32) q5) else (
      fm_171_75 (fm_171_65 n) 100000 x1 (0 : Int32) σ)
theorem fe_171_65 {d : Nat} (hd : 28 ≤ d) : ∀ (n : Nat) (x1 : Int32) (o2 : Option Value) (σ : fx_S) (q : Bool × fx_S), fm_171_65 n x1 σ = some q → fx_E none 171 d 65 [some (.ref 215), some (.int x1), o2] [] σ (some (.int (fx_b q.1))) q.2 := by
  intro n
  induction n with
  | zero =>
    intro x1 o2 σ q  h
    rw [fm_171_65] at h
    exact fx_no h
  | succ n ih =>
    intro x1 o2 σ q  h
    rw [fm_171_65] at h
    refine fs_iload_n (k := 1) (p := 66) (by decide +kernel) rfl rfl ?_
    refine fs_aload_n (k := 0) (p := 67) (by decide +kernel) rfl rfl ?_
    refine fs_gfi (idx := 208) (ci := 10) (j := 17) (p := 70) (by decide +kernel) rfl (by decide +kernel) fo_215 ?_
    by_cases c3 : (σ.1 215 17) ≤ x1
    · rw [if_pos c3] at h
      refine fs_icmp_ge_t (off := 112) (t := 182) (by decide +kernel) (by decide +kernel) c3 ?_
      refine fs_aload_n (k := 0) (p := 183) (by decide +kernel) rfl rfl ?_
      obtain ⟨q5, w4, h⟩ := fx_bd h
      refine fs_callV (idx := 245) (mj := 170) (ci := 10) (na := 0) (mx := 4) (p := 186) (args := [.ref 215]) (rest := []) (al2 := [some (.ref 215), none, none, none]) (by decide +kernel) rfl (by decide +kernel) fo_215 rfl rfl rfl rfl rfl rfl rfl (by omega) (fun d' hd' => fe_170 (by omega) w4) rfl ?_
      refine fs_iconst (n := 0) (p := 187) (by decide +kernel) rfl kc_0 ?_
      refine fs_istore_n (k := 1) (p := 188) (M := 3) (al' := [some (.ref 215), some (.int (0 : Int32)), o2]) (by decide +kernel) rfl mx_171 rfl rfl ?_
      exact fe_171_188 hd 100000 _ _ _ _ h
    · rw [if_neg c3] at h
      refine fs_icmp_ge_f (off := 112) (t := 182) (p := 73) (by decide +kernel) (by decide +kernel) rfl c3 ?_
      refine fs_iconst (n := 0) (p := 74) (by decide +kernel) rfl kc_0 ?_
      refine fs_istore_n (k := 2) (p := 75) (M := 3) (al' := [some (.ref 215), some (.int x1), some (.int (0 : Int32))]) (by decide +kernel) rfl mx_171 rfl rfl ?_
      exact fe_171_75 hd ih 100000 _ _ _ _ h
def fm_171_30 : Nat → Int32 → fx_S → Option (Bool × fx_S)
  | 0, _, _ => none
  | n + 1, x1, σ =>
    if (σ.1 215 18) ≤ x1 then (
      fm_171_65 100000 (0 : Int32) σ) else (
      (fx_stl σ 230 x1 (0 : Int64)).bind fun t4 =>
      (fx_ldl t4 227 x1).bind fun v7 =>
      (fx_stl t4 229 x1 v7).bind fun t9 =>
      fm_171_30 n (x1 + (1 : Int32)) t9)
theorem fe_171_30 {d : Nat} (hd : 28 ≤ d) : ∀ (n : Nat) (x1 : Int32) (σ : fx_S) (q : Bool × fx_S), fm_171_30 n x1 σ = some q → fx_E none 171 d 30 [some (.ref 215), some (.int x1), none] [] σ (some (.int (fx_b q.1))) q.2 := by
  intro n
  induction n with
  | zero =>
    intro x1 σ q  h
    rw [fm_171_30] at h
    exact fx_no h
  | succ n ih =>
    intro x1 σ q  h
    rw [fm_171_30] at h
    refine fs_iload_n (k := 1) (p := 31) (by decide +kernel) rfl rfl ?_
    refine fs_aload_n (k := 0) (p := 32) (by decide +kernel) rfl rfl ?_
    refine fs_gfi (idx := 211) (ci := 10) (j := 18) (p := 35) (by decide +kernel) rfl (by decide +kernel) fo_215 ?_
    by_cases c3 : (σ.1 215 18) ≤ x1
    · rw [if_pos c3] at h
      refine fs_icmp_ge_t (off := 28) (t := 63) (by decide +kernel) (by decide +kernel) c3 ?_
      refine fs_iconst (n := 0) (p := 64) (by decide +kernel) rfl kc_0 ?_
      refine fs_istore_n (k := 1) (p := 65) (M := 3) (al' := [some (.ref 215), some (.int (0 : Int32)), none]) (by decide +kernel) rfl mx_171 rfl rfl ?_
      exact fe_171_65 hd 100000 _ _ _ _ h
    · rw [if_neg c3] at h
      refine fs_icmp_ge_f (off := 28) (t := 63) (p := 38) (by decide +kernel) (by decide +kernel) rfl c3 ?_
      refine fs_aload_n (k := 0) (p := 39) (by decide +kernel) rfl rfl ?_
      refine fs_gfr (idx := 54) (ci := 10) (j := 23) (p := 42) (by decide +kernel) rfl (by decide +kernel) fo_215 (fr_a215_23) ?_
      refine fs_iload_n (k := 1) (p := 43) (by decide +kernel) rfl rfl ?_
      refine fs_lconst (n := 0) (p := 44) (by decide +kernel) rfl kl_0 ?_
      obtain ⟨t4, w5, h⟩ := fx_bd h
      refine fs_lastore (p := 45) (by decide +kernel) rfl w5 ?_
      refine fs_aload_n (k := 0) (p := 46) (by decide +kernel) rfl rfl ?_
      refine fs_gfr (idx := 51) (ci := 10) (j := 22) (p := 49) (by decide +kernel) rfl (by decide +kernel) fo_215 (fr_a215_22) ?_
      refine fs_iload_n (k := 1) (p := 50) (by decide +kernel) rfl rfl ?_
      refine fs_aload_n (k := 0) (p := 51) (by decide +kernel) rfl rfl ?_
      refine fs_gfr (idx := 45) (ci := 10) (j := 20) (p := 54) (by decide +kernel) rfl (by decide +kernel) fo_215 (fr_a215_20) ?_
      refine fs_iload_n (k := 1) (p := 55) (by decide +kernel) rfl rfl ?_
      obtain ⟨v7, w8, h⟩ := fx_bd h
      refine fs_laload (p := 56) (by decide +kernel) rfl w8 ?_
      obtain ⟨t9, w10, h⟩ := fx_bd h
      refine fs_lastore (p := 57) (by decide +kernel) rfl w10 ?_
      refine fs_iinc (k := 1) (n := 1) (p := 60) (M := 3) (al' := [some (.ref 215), some (.int (x1 + (1 : Int32))), none]) (by decide +kernel) rfl kc_1 mx_171 rfl rfl rfl ?_
      refine fs_goto (off := -30) (p := 30) (by decide +kernel) (by decide +kernel) ?_
      exact ih _ _ _ h
def fm_171_2 : Nat → Int32 → fx_S → Option (Bool × fx_S)
  | 0, _, _ => none
  | n + 1, x1, σ =>
    if (σ.1 215 17) ≤ x1 then (
      fm_171_30 100000 (0 : Int32) σ) else (
      (fx_ldl σ 226 x1).bind fun v4 =>
      (fx_stl σ 231 x1 v4).bind fun t7 =>
      fm_171_2 n (x1 + (1 : Int32)) t7)
theorem fe_171_2 {d : Nat} (hd : 28 ≤ d) : ∀ (n : Nat) (x1 : Int32) (σ : fx_S) (q : Bool × fx_S), fm_171_2 n x1 σ = some q → fx_E none 171 d 2 [some (.ref 215), some (.int x1), none] [] σ (some (.int (fx_b q.1))) q.2 := by
  intro n
  induction n with
  | zero =>
    intro x1 σ q  h
    rw [fm_171_2] at h
    exact fx_no h
  | succ n ih =>
    intro x1 σ q  h
    rw [fm_171_2] at h
    refine fs_iload_n (k := 1) (p := 3) (by decide +kernel) rfl rfl ?_
    refine fs_aload_n (k := 0) (p := 4) (by decide +kernel) rfl rfl ?_
    refine fs_gfi (idx := 208) (ci := 10) (j := 17) (p := 7) (by decide +kernel) rfl (by decide +kernel) fo_215 ?_
    by_cases c3 : (σ.1 215 17) ≤ x1
    · rw [if_pos c3] at h
      refine fs_icmp_ge_t (off := 21) (t := 28) (by decide +kernel) (by decide +kernel) c3 ?_
      refine fs_iconst (n := 0) (p := 29) (by decide +kernel) rfl kc_0 ?_
      refine fs_istore_n (k := 1) (p := 30) (M := 3) (al' := [some (.ref 215), some (.int (0 : Int32)), none]) (by decide +kernel) rfl mx_171 rfl rfl ?_
      exact fe_171_30 hd 100000 _ _ _ h
    · rw [if_neg c3] at h
      refine fs_icmp_ge_f (off := 21) (t := 28) (p := 10) (by decide +kernel) (by decide +kernel) rfl c3 ?_
      refine fs_aload_n (k := 0) (p := 11) (by decide +kernel) rfl rfl ?_
      refine fs_gfr (idx := 57) (ci := 10) (j := 24) (p := 14) (by decide +kernel) rfl (by decide +kernel) fo_215 (fr_a215_24) ?_
      refine fs_iload_n (k := 1) (p := 15) (by decide +kernel) rfl rfl ?_
      refine fs_aload_n (k := 0) (p := 16) (by decide +kernel) rfl rfl ?_
      refine fs_gfr (idx := 42) (ci := 10) (j := 19) (p := 19) (by decide +kernel) rfl (by decide +kernel) fo_215 (fr_a215_19) ?_
      refine fs_iload_n (k := 1) (p := 20) (by decide +kernel) rfl rfl ?_
      obtain ⟨v4, w5, h⟩ := fx_bd h
      refine fs_laload (p := 21) (by decide +kernel) rfl w5 ?_
      obtain ⟨t7, w8, h⟩ := fx_bd h
      refine fs_lastore (p := 22) (by decide +kernel) rfl w8 ?_
      refine fs_iinc (k := 1) (n := 1) (p := 25) (M := 3) (al' := [some (.ref 215), some (.int (x1 + (1 : Int32))), none]) (by decide +kernel) rfl kc_1 mx_171 rfl rfl rfl ?_
      refine fs_goto (off := -23) (p := 2) (by decide +kernel) (by decide +kernel) ?_
      exact ih _ _ _ h
def fm_171 (σ : fx_S) : Option (Bool × fx_S) :=
  fm_171_2 100000 (0 : Int32) σ
theorem fe_171 {d : Nat} (hd : 28 ≤ d) {σ : fx_S} {q : Bool × fx_S} (h : fm_171 σ = some q) : fx_E none 171 d 0 [some (.ref 215), none, none] [] σ (some (.int (fx_b q.1))) q.2 := by
  unfold fm_171 at h
  refine fs_iconst (n := 0) (p := 1) (by decide +kernel) rfl kc_0 ?_
  refine fs_istore_n (k := 1) (p := 2) (M := 3) (al' := [some (.ref 215), some (.int (0 : Int32)), none]) (by decide +kernel) rfl mx_171 rfl rfl ?_
  exact fe_171_2 hd 100000 _ _ _ h

/-! ZoneSharesModel.balances()V -/
theorem mx_172 : iv_mx 172 = 3 := by decide +kernel
theorem rt_172 : iv_rt 172 = none := by decide +kernel
def fm_172_146 (k_81 : Int32 → Int32 → fx_S → Option (fx_S)) (x1 : Int32) (x2 : Int32) (s1 : Int32) (s2 : Int32) (σ : fx_S) : Option (fx_S) :=
  (fx_stb σ 234 s1 s2).bind fun t1 =>
  (fm_160 x1 x2 t1).bind fun q5 =>
  (fx_ldl q5.2 224 q5.1).bind fun v6 =>
  (fm_160 x1 x2 q5.2).bind fun q10 =>
  (fx_ldb q10.2 234 q10.1).bind fun v11 =>
  (fm_131 v11 q10.2).bind fun q15 =>
  (fx_stl q15.2 224 q5.1 (v6 + (q15.1).toInt64)).bind fun t17 =>
  k_81 x1 (x2 + (1 : Int32)) t17
theorem fe_172_146 {d : Nat} (hd : 29 ≤ d) {k_81 : Int32 → Int32 → fx_S → Option (fx_S)} (hk_81 : ∀ (x1 : Int32) (x2 : Int32) (σ : fx_S) (q : fx_S), k_81 x1 x2 σ = some q → fx_E none 172 d 81 [some (.ref 215), some (.int x1), some (.int x2)] [] σ none q) (x1 : Int32) (x2 : Int32) (s1 : Int32) (s2 : Int32) (σ : fx_S) (q : fx_S) (h : fm_172_146 k_81  x1 x2 s1 s2 σ = some q) : fx_E none 172 d 146 [some (.ref 215), some (.int x1), some (.int x2)] [.int s2, .int s1, .ref 234] σ none q := by
  unfold fm_172_146 at h
  obtain ⟨t1, w2, h⟩ := fx_bd h
  refine fs_bastore (p := 147) (by decide +kernel) rfl w2 ?_
  refine fs_aload_n (k := 0) (p := 148) (by decide +kernel) rfl rfl ?_
  refine fs_gfr (idx := 36) (ci := 10) (j := 15) (p := 151) (by decide +kernel) rfl (by decide +kernel) fo_215 (fr_a215_15) ?_
  refine fs_iload_n (k := 1) (p := 152) (by decide +kernel) rfl rfl ?_
  refine fs_iload_n (k := 2) (p := 153) (by decide +kernel) rfl rfl ?_
  obtain ⟨q5, w4, h⟩ := fx_bd h
  refine fs_callS (idx := 214) (mj := 160) (na := 2) (mx := 2) (p := 156) (args := [.int x1, .int x2]) (rest := [.ref 224]) (al2 := [some (.int x1), some (.int x2)]) (by decide +kernel) rfl (by decide +kernel) rfl rfl rfl rfl rfl rfl rfl (by omega) (fun d' hd' => fe_160 (by omega) w4) rfl ?_
  refine fs_dup2 (p := 157) (by decide +kernel) rfl rfl rfl ?_
  obtain ⟨v6, w7, h⟩ := fx_bd h
  refine fs_laload (p := 158) (by decide +kernel) rfl w7 ?_
  refine fs_aload_n (k := 0) (p := 159) (by decide +kernel) rfl rfl ?_
  refine fs_gfr (idx := 67) (ci := 10) (j := 27) (p := 162) (by decide +kernel) rfl (by decide +kernel) fo_215 (fr_a215_27) ?_
  refine fs_iload_n (k := 1) (p := 163) (by decide +kernel) rfl rfl ?_
  refine fs_iload_n (k := 2) (p := 164) (by decide +kernel) rfl rfl ?_
  obtain ⟨q10, w9, h⟩ := fx_bd h
  refine fs_callS (idx := 214) (mj := 160) (na := 2) (mx := 2) (p := 167) (args := [.int x1, .int x2]) (rest := [.ref 234, .long v6, .int q5.1, .ref 224]) (al2 := [some (.int x1), some (.int x2)]) (by decide +kernel) rfl (by decide +kernel) rfl rfl rfl rfl rfl rfl rfl (by omega) (fun d' hd' => fe_160 (by omega) w9) rfl ?_
  obtain ⟨v11, w12, h⟩ := fx_bd h
  refine fs_baload (p := 168) (by decide +kernel) rfl w12 ?_
  obtain ⟨q15, w14, h⟩ := fx_bd h
  refine fs_callS (idx := 186) (mj := 131) (na := 1) (mx := 1) (p := 171) (args := [.int v11]) (rest := [.long v6, .int q5.1, .ref 224]) (al2 := [some (.int v11)]) (by decide +kernel) rfl (by decide +kernel) rfl rfl rfl rfl rfl rfl rfl (by omega) (fun d' hd' => fe_131 (by omega) w14) rfl ?_
  refine fs_i2l (p := 172) (by decide +kernel) rfl ?_
  refine fs_ladd (p := 173) (by decide +kernel) rfl ?_
  obtain ⟨t17, w18, h⟩ := fx_bd h
  refine fs_lastore (p := 174) (by decide +kernel) rfl w18 ?_
  refine fs_iinc (k := 2) (n := 1) (p := 177) (M := 3) (al' := [some (.ref 215), some (.int x1), some (.int (x2 + (1 : Int32)))]) (by decide +kernel) rfl kc_1 mx_172 rfl rfl rfl ?_
  refine fs_goto (off := -96) (p := 81) (by decide +kernel) (by decide +kernel) ?_
  exact hk_81 _ _ _ _ h
def fm_172_81 (k_71 : Int32 → fx_S → Option (fx_S)) : Nat → Int32 → Int32 → fx_S → Option (fx_S)
  | 0, _, _, _ => none
  | n + 1, x1, x2, σ =>
    if (σ.1 215 18) ≤ x2 then (
      k_71 (x1 + (1 : Int32)) σ) else (
      (fm_160 x1 x2 σ).bind fun q5 =>
      (fx_stb q5.2 233 q5.1 (1 : Int32)).bind fun t6 =>
      (fm_160 x1 x2 t6).bind fun q10 =>
      (fm_167 x1 x2 q10.2).bind fun q12 =>
      (fx_stb q12.2 234 q10.1 (fx_b q12.1)).bind fun t13 =>
      (fm_160 x1 x2 t13).bind fun q17 =>
      (fm_167 x1 x2 q17.2).bind fun q19 =>
      if (fx_b q19.1) = 0 then (
        fm_172_146 (fm_172_81 k_71 n) x1 x2 q17.1 (0 : Int32) q19.2) else (
        (fm_171 q19.2).bind fun q22 =>
        if (fx_b q22.1) = 0 then (
          fm_172_146 (fm_172_81 k_71 n) x1 x2 q17.1 (0 : Int32) q22.2) else (
          fm_172_146 (fm_172_81 k_71 n) x1 x2 q17.1 (1 : Int32) q22.2)))
theorem fe_172_81 {d : Nat} (hd : 29 ≤ d) {k_71 : Int32 → fx_S → Option (fx_S)} (hk_71 : ∀ (x1 : Int32) (o2 : Option Value) (σ : fx_S) (q : fx_S), k_71 x1 σ = some q → fx_E none 172 d 71 [some (.ref 215), some (.int x1), o2] [] σ none q) : ∀ (n : Nat) (x1 : Int32) (x2 : Int32) (σ : fx_S) (q : fx_S), fm_172_81 k_71 n x1 x2 σ = some q → fx_E none 172 d 81 [some (.ref 215), some (.int x1), some (.int x2)] [] σ none q := by
  intro n
  induction n with
  | zero =>
    intro x1 x2 σ q  h
    rw [fm_172_81] at h
    exact fx_no h
  | succ n ih =>
    intro x1 x2 σ q  h
    rw [fm_172_81] at h
    refine fs_iload_n (k := 2) (p := 82) (by decide +kernel) rfl rfl ?_
    refine fs_aload_n (k := 0) (p := 83) (by decide +kernel) rfl rfl ?_
    refine fs_gfi (idx := 211) (ci := 10) (j := 18) (p := 86) (by decide +kernel) rfl (by decide +kernel) fo_215 ?_
    by_cases c3 : (σ.1 215 18) ≤ x2
    · rw [if_pos c3] at h
      refine fs_icmp_ge_t (off := 94) (t := 180) (by decide +kernel) (by decide +kernel) c3 ?_
      refine fs_iinc (k := 1) (n := 1) (p := 183) (M := 3) (al' := [some (.ref 215), some (.int (x1 + (1 : Int32))), some (.int x2)]) (by decide +kernel) rfl kc_1 mx_172 rfl rfl rfl ?_
      refine fs_goto (off := -112) (p := 71) (by decide +kernel) (by decide +kernel) ?_
      exact hk_71 _ _ _ _ h
    · rw [if_neg c3] at h
      refine fs_icmp_ge_f (off := 94) (t := 180) (p := 89) (by decide +kernel) (by decide +kernel) rfl c3 ?_
      refine fs_aload_n (k := 0) (p := 90) (by decide +kernel) rfl rfl ?_
      refine fs_gfr (idx := 64) (ci := 10) (j := 26) (p := 93) (by decide +kernel) rfl (by decide +kernel) fo_215 (fr_a215_26) ?_
      refine fs_iload_n (k := 1) (p := 94) (by decide +kernel) rfl rfl ?_
      refine fs_iload_n (k := 2) (p := 95) (by decide +kernel) rfl rfl ?_
      obtain ⟨q5, w4, h⟩ := fx_bd h
      refine fs_callS (idx := 214) (mj := 160) (na := 2) (mx := 2) (p := 98) (args := [.int x1, .int x2]) (rest := [.ref 233]) (al2 := [some (.int x1), some (.int x2)]) (by decide +kernel) rfl (by decide +kernel) rfl rfl rfl rfl rfl rfl rfl (by omega) (fun d' hd' => fe_160 (by omega) w4) rfl ?_
      refine fs_iconst (n := 1) (p := 99) (by decide +kernel) rfl kc_1 ?_
      obtain ⟨t6, w7, h⟩ := fx_bd h
      refine fs_bastore (p := 100) (by decide +kernel) rfl w7 ?_
      refine fs_aload_n (k := 0) (p := 101) (by decide +kernel) rfl rfl ?_
      refine fs_gfr (idx := 67) (ci := 10) (j := 27) (p := 104) (by decide +kernel) rfl (by decide +kernel) fo_215 (fr_a215_27) ?_
      refine fs_iload_n (k := 1) (p := 105) (by decide +kernel) rfl rfl ?_
      refine fs_iload_n (k := 2) (p := 106) (by decide +kernel) rfl rfl ?_
      obtain ⟨q10, w9, h⟩ := fx_bd h
      refine fs_callS (idx := 214) (mj := 160) (na := 2) (mx := 2) (p := 109) (args := [.int x1, .int x2]) (rest := [.ref 234]) (al2 := [some (.int x1), some (.int x2)]) (by decide +kernel) rfl (by decide +kernel) rfl rfl rfl rfl rfl rfl rfl (by omega) (fun d' hd' => fe_160 (by omega) w9) rfl ?_
      refine fs_aload_n (k := 0) (p := 110) (by decide +kernel) rfl rfl ?_
      refine fs_iload_n (k := 1) (p := 111) (by decide +kernel) rfl rfl ?_
      refine fs_iload_n (k := 2) (p := 112) (by decide +kernel) rfl rfl ?_
      obtain ⟨q12, w11, h⟩ := fx_bd h
      refine fs_callV (idx := 236) (mj := 167) (ci := 10) (na := 2) (mx := 3) (p := 115) (args := [.ref 215, .int x1, .int x2]) (rest := [.int q10.1, .ref 234]) (al2 := [some (.ref 215), some (.int x1), some (.int x2)]) (by decide +kernel) rfl (by decide +kernel) fo_215 rfl rfl rfl rfl rfl rfl rfl (by omega) (fun d' hd' => fe_167 (by omega) w11) rfl ?_
      obtain ⟨t13, w14, h⟩ := fx_bd h
      refine fs_bastore (p := 116) (by decide +kernel) rfl w14 ?_
      refine fs_aload_n (k := 0) (p := 117) (by decide +kernel) rfl rfl ?_
      refine fs_gfr (idx := 67) (ci := 10) (j := 27) (p := 120) (by decide +kernel) rfl (by decide +kernel) fo_215 (fr_a215_27) ?_
      refine fs_iload_n (k := 1) (p := 121) (by decide +kernel) rfl rfl ?_
      refine fs_iload_n (k := 2) (p := 122) (by decide +kernel) rfl rfl ?_
      obtain ⟨q17, w16, h⟩ := fx_bd h
      refine fs_callS (idx := 214) (mj := 160) (na := 2) (mx := 2) (p := 125) (args := [.int x1, .int x2]) (rest := [.ref 234]) (al2 := [some (.int x1), some (.int x2)]) (by decide +kernel) rfl (by decide +kernel) rfl rfl rfl rfl rfl rfl rfl (by omega) (fun d' hd' => fe_160 (by omega) w16) rfl ?_
      refine fs_aload_n (k := 0) (p := 126) (by decide +kernel) rfl rfl ?_
      refine fs_iload_n (k := 1) (p := 127) (by decide +kernel) rfl rfl ?_
      refine fs_iload_n (k := 2) (p := 128) (by decide +kernel) rfl rfl ?_
      obtain ⟨q19, w18, h⟩ := fx_bd h
      refine fs_callV (idx := 236) (mj := 167) (ci := 10) (na := 2) (mx := 3) (p := 131) (args := [.ref 215, .int x1, .int x2]) (rest := [.int q17.1, .ref 234]) (al2 := [some (.ref 215), some (.int x1), some (.int x2)]) (by decide +kernel) rfl (by decide +kernel) fo_215 rfl rfl rfl rfl rfl rfl rfl (by omega) (fun d' hd' => fe_167 (by omega) w18) rfl ?_
      by_cases c20 : (fx_b q19.1) = 0
      · rw [if_pos c20] at h
        refine fs_if_eq_t (off := 14) (t := 145) (by decide +kernel) (by decide +kernel) c20 ?_
        refine fs_iconst (n := 0) (p := 146) (by decide +kernel) rfl kc_0 ?_
        exact fe_172_146 hd ih _ _ _ _ _ _ h
      · rw [if_neg c20] at h
        refine fs_if_eq_f (off := 14) (t := 145) (p := 134) (by decide +kernel) (by decide +kernel) rfl c20 ?_
        refine fs_aload_n (k := 0) (p := 135) (by decide +kernel) rfl rfl ?_
        obtain ⟨q22, w21, h⟩ := fx_bd h
        refine fs_callV (idx := 251) (mj := 171) (ci := 10) (na := 0) (mx := 3) (p := 138) (args := [.ref 215]) (rest := [.int q17.1, .ref 234]) (al2 := [some (.ref 215), none, none]) (by decide +kernel) rfl (by decide +kernel) fo_215 rfl rfl rfl rfl rfl rfl rfl (by omega) (fun d' hd' => fe_171 (by omega) w21) rfl ?_
        by_cases c23 : (fx_b q22.1) = 0
        · rw [if_pos c23] at h
          refine fs_if_eq_t (off := 7) (t := 145) (by decide +kernel) (by decide +kernel) c23 ?_
          refine fs_iconst (n := 0) (p := 146) (by decide +kernel) rfl kc_0 ?_
          exact fe_172_146 hd ih _ _ _ _ _ _ h
        · rw [if_neg c23] at h
          refine fs_if_eq_f (off := 7) (t := 145) (p := 141) (by decide +kernel) (by decide +kernel) rfl c23 ?_
          refine fs_iconst (n := 1) (p := 142) (by decide +kernel) rfl kc_1 ?_
          refine fs_goto (off := 4) (p := 146) (by decide +kernel) (by decide +kernel) ?_
          exact fe_172_146 hd ih _ _ _ _ _ _ h
def fm_172_71 : Nat → Int32 → fx_S → Option (fx_S)
  | 0, _, _ => none
  | n + 1, x1, σ =>
    if (σ.1 215 17) ≤ x1 then (
      some σ) else (
      fm_172_81 (fm_172_71 n) 100000 x1 (0 : Int32) σ)
theorem fe_172_71 {d : Nat} (hd : 29 ≤ d) : ∀ (n : Nat) (x1 : Int32) (o2 : Option Value) (σ : fx_S) (q : fx_S), fm_172_71 n x1 σ = some q → fx_E none 172 d 71 [some (.ref 215), some (.int x1), o2] [] σ none q := by
  intro n
  induction n with
  | zero =>
    intro x1 o2 σ q  h
    rw [fm_172_71] at h
    exact fx_no h
  | succ n ih =>
    intro x1 o2 σ q  h
    rw [fm_172_71] at h
    refine fs_iload_n (k := 1) (p := 72) (by decide +kernel) rfl rfl ?_
    refine fs_aload_n (k := 0) (p := 73) (by decide +kernel) rfl rfl ?_
    refine fs_gfi (idx := 208) (ci := 10) (j := 17) (p := 76) (by decide +kernel) rfl (by decide +kernel) fo_215 ?_
    by_cases c3 : (σ.1 215 17) ≤ x1
    · rw [if_pos c3] at h
      refine fs_icmp_ge_t (off := 110) (t := 186) (by decide +kernel) (by decide +kernel) c3 ?_
      have h := Option.some.inj h
      subst h
      exact fs_ret (by decide +kernel) rt_172
    · rw [if_neg c3] at h
      refine fs_icmp_ge_f (off := 110) (t := 186) (p := 79) (by decide +kernel) (by decide +kernel) rfl c3 ?_
      refine fs_iconst (n := 0) (p := 80) (by decide +kernel) rfl kc_0 ?_
      refine fs_istore_n (k := 2) (p := 81) (M := 3) (al' := [some (.ref 215), some (.int x1), some (.int (0 : Int32))]) (by decide +kernel) rfl mx_172 rfl rfl ?_
      exact fe_172_81 hd ih 100000 _ _ _ _ h
def fm_172_50 : Nat → Int32 → fx_S → Option (fx_S)
  | 0, _, _ => none
  | n + 1, x1, σ =>
    if (72 : Int32) ≤ x1 then (
      fm_172_71 100000 (0 : Int32) σ) else (
      (fx_stb σ 233 x1 (0 : Int32)).bind fun t3 =>
      fm_172_50 n (x1 + (1 : Int32)) t3)
theorem fe_172_50 {d : Nat} (hd : 29 ≤ d) : ∀ (n : Nat) (x1 : Int32) (σ : fx_S) (q : fx_S), fm_172_50 n x1 σ = some q → fx_E none 172 d 50 [some (.ref 215), some (.int x1), none] [] σ none q := by
  intro n
  induction n with
  | zero =>
    intro x1 σ q  h
    rw [fm_172_50] at h
    exact fx_no h
  | succ n ih =>
    intro x1 σ q  h
    rw [fm_172_50] at h
    refine fs_iload_n (k := 1) (p := 51) (by decide +kernel) rfl rfl ?_
    refine fs_bipush (n := 72) (p := 53) (by decide +kernel) rfl kb_72 ?_
    by_cases c2 : (72 : Int32) ≤ x1
    · rw [if_pos c2] at h
      refine fs_icmp_ge_t (off := 16) (t := 69) (by decide +kernel) (by decide +kernel) c2 ?_
      refine fs_iconst (n := 0) (p := 70) (by decide +kernel) rfl kc_0 ?_
      refine fs_istore_n (k := 1) (p := 71) (M := 3) (al' := [some (.ref 215), some (.int (0 : Int32)), none]) (by decide +kernel) rfl mx_172 rfl rfl ?_
      exact fe_172_71 hd 100000 _ _ _ _ h
    · rw [if_neg c2] at h
      refine fs_icmp_ge_f (off := 16) (t := 69) (p := 56) (by decide +kernel) (by decide +kernel) rfl c2 ?_
      refine fs_aload_n (k := 0) (p := 57) (by decide +kernel) rfl rfl ?_
      refine fs_gfr (idx := 64) (ci := 10) (j := 26) (p := 60) (by decide +kernel) rfl (by decide +kernel) fo_215 (fr_a215_26) ?_
      refine fs_iload_n (k := 1) (p := 61) (by decide +kernel) rfl rfl ?_
      refine fs_iconst (n := 0) (p := 62) (by decide +kernel) rfl kc_0 ?_
      obtain ⟨t3, w4, h⟩ := fx_bd h
      refine fs_bastore (p := 63) (by decide +kernel) rfl w4 ?_
      refine fs_iinc (k := 1) (n := 1) (p := 66) (M := 3) (al' := [some (.ref 215), some (.int (x1 + (1 : Int32))), none]) (by decide +kernel) rfl kc_1 mx_172 rfl rfl rfl ?_
      refine fs_goto (off := -16) (p := 50) (by decide +kernel) (by decide +kernel) ?_
      exact ih _ _ _ h
def fm_172_29 : Nat → Int32 → fx_S → Option (fx_S)
  | 0, _, _ => none
  | n + 1, x1, σ =>
    if (σ.1 215 18) ≤ x1 then (
      fm_172_50 100000 (0 : Int32) σ) else (
      (fm_166 x1 σ).bind fun q5 =>
      fm_172_29 n (x1 + (1 : Int32)) q5)
theorem fe_172_29 {d : Nat} (hd : 29 ≤ d) : ∀ (n : Nat) (x1 : Int32) (σ : fx_S) (q : fx_S), fm_172_29 n x1 σ = some q → fx_E none 172 d 29 [some (.ref 215), some (.int x1), none] [] σ none q := by
  intro n
  induction n with
  | zero =>
    intro x1 σ q  h
    rw [fm_172_29] at h
    exact fx_no h
  | succ n ih =>
    intro x1 σ q  h
    rw [fm_172_29] at h
    refine fs_iload_n (k := 1) (p := 30) (by decide +kernel) rfl rfl ?_
    refine fs_aload_n (k := 0) (p := 31) (by decide +kernel) rfl rfl ?_
    refine fs_gfi (idx := 211) (ci := 10) (j := 18) (p := 34) (by decide +kernel) rfl (by decide +kernel) fo_215 ?_
    by_cases c3 : (σ.1 215 18) ≤ x1
    · rw [if_pos c3] at h
      refine fs_icmp_ge_t (off := 14) (t := 48) (by decide +kernel) (by decide +kernel) c3 ?_
      refine fs_iconst (n := 0) (p := 49) (by decide +kernel) rfl kc_0 ?_
      refine fs_istore_n (k := 1) (p := 50) (M := 3) (al' := [some (.ref 215), some (.int (0 : Int32)), none]) (by decide +kernel) rfl mx_172 rfl rfl ?_
      exact fe_172_50 hd 100000 _ _ _ h
    · rw [if_neg c3] at h
      refine fs_icmp_ge_f (off := 14) (t := 48) (p := 37) (by decide +kernel) (by decide +kernel) rfl c3 ?_
      refine fs_aload_n (k := 0) (p := 38) (by decide +kernel) rfl rfl ?_
      refine fs_iload_n (k := 1) (p := 39) (by decide +kernel) rfl rfl ?_
      obtain ⟨q5, w4, h⟩ := fx_bd h
      refine fs_callV (idx := 248) (mj := 166) (ci := 10) (na := 1) (mx := 3) (p := 42) (args := [.ref 215, .int x1]) (rest := []) (al2 := [some (.ref 215), some (.int x1), none]) (by decide +kernel) rfl (by decide +kernel) fo_215 rfl rfl rfl rfl rfl rfl rfl (by omega) (fun d' hd' => fe_166 (by omega) w4) rfl ?_
      refine fs_iinc (k := 1) (n := 1) (p := 45) (M := 3) (al' := [some (.ref 215), some (.int (x1 + (1 : Int32))), none]) (by decide +kernel) rfl kc_1 mx_172 rfl rfl rfl ?_
      refine fs_goto (off := -16) (p := 29) (by decide +kernel) (by decide +kernel) ?_
      exact ih _ _ _ h
def fm_172_2 : Nat → Int32 → fx_S → Option (fx_S)
  | 0, _, _ => none
  | n + 1, x1, σ =>
    if (σ.1 215 17) ≤ x1 then (
      fm_172_29 100000 (0 : Int32) σ) else (
      (fm_162 x1 σ).bind fun q5 =>
      (fx_stl q5.2 226 x1 q5.1).bind fun t6 =>
      fm_172_2 n (x1 + (1 : Int32)) t6)
theorem fe_172_2 {d : Nat} (hd : 29 ≤ d) : ∀ (n : Nat) (x1 : Int32) (σ : fx_S) (q : fx_S), fm_172_2 n x1 σ = some q → fx_E none 172 d 2 [some (.ref 215), some (.int x1), none] [] σ none q := by
  intro n
  induction n with
  | zero =>
    intro x1 σ q  h
    rw [fm_172_2] at h
    exact fx_no h
  | succ n ih =>
    intro x1 σ q  h
    rw [fm_172_2] at h
    refine fs_iload_n (k := 1) (p := 3) (by decide +kernel) rfl rfl ?_
    refine fs_aload_n (k := 0) (p := 4) (by decide +kernel) rfl rfl ?_
    refine fs_gfi (idx := 208) (ci := 10) (j := 17) (p := 7) (by decide +kernel) rfl (by decide +kernel) fo_215 ?_
    by_cases c3 : (σ.1 215 17) ≤ x1
    · rw [if_pos c3] at h
      refine fs_icmp_ge_t (off := 20) (t := 27) (by decide +kernel) (by decide +kernel) c3 ?_
      refine fs_iconst (n := 0) (p := 28) (by decide +kernel) rfl kc_0 ?_
      refine fs_istore_n (k := 1) (p := 29) (M := 3) (al' := [some (.ref 215), some (.int (0 : Int32)), none]) (by decide +kernel) rfl mx_172 rfl rfl ?_
      exact fe_172_29 hd 100000 _ _ _ h
    · rw [if_neg c3] at h
      refine fs_icmp_ge_f (off := 20) (t := 27) (p := 10) (by decide +kernel) (by decide +kernel) rfl c3 ?_
      refine fs_aload_n (k := 0) (p := 11) (by decide +kernel) rfl rfl ?_
      refine fs_gfr (idx := 42) (ci := 10) (j := 19) (p := 14) (by decide +kernel) rfl (by decide +kernel) fo_215 (fr_a215_19) ?_
      refine fs_iload_n (k := 1) (p := 15) (by decide +kernel) rfl rfl ?_
      refine fs_aload_n (k := 0) (p := 16) (by decide +kernel) rfl rfl ?_
      refine fs_iload_n (k := 1) (p := 17) (by decide +kernel) rfl rfl ?_
      obtain ⟨q5, w4, h⟩ := fx_bd h
      refine fs_callV (idx := 217) (mj := 162) (ci := 10) (na := 1) (mx := 7) (p := 20) (args := [.ref 215, .int x1]) (rest := [.int x1, .ref 226]) (al2 := [some (.ref 215), some (.int x1), none, none, none, none, none]) (by decide +kernel) rfl (by decide +kernel) fo_215 rfl rfl rfl rfl rfl rfl rfl (by omega) (fun d' hd' => fe_162 (by omega) w4) rfl ?_
      obtain ⟨t6, w7, h⟩ := fx_bd h
      refine fs_lastore (p := 21) (by decide +kernel) rfl w7 ?_
      refine fs_iinc (k := 1) (n := 1) (p := 24) (M := 3) (al' := [some (.ref 215), some (.int (x1 + (1 : Int32))), none]) (by decide +kernel) rfl kc_1 mx_172 rfl rfl rfl ?_
      refine fs_goto (off := -22) (p := 2) (by decide +kernel) (by decide +kernel) ?_
      exact ih _ _ _ h
def fm_172 (σ : fx_S) : Option (fx_S) :=
  fm_172_2 100000 (0 : Int32) σ
theorem fe_172 {d : Nat} (hd : 29 ≤ d) {σ : fx_S} {q : fx_S} (h : fm_172 σ = some q) : fx_E none 172 d 0 [some (.ref 215), none, none] [] σ none q := by
  unfold fm_172 at h
  refine fs_iconst (n := 0) (p := 1) (by decide +kernel) rfl kc_0 ?_
  refine fs_istore_n (k := 1) (p := 2) (M := 3) (al' := [some (.ref 215), some (.int (0 : Int32)), none]) (by decide +kernel) rfl mx_172 rfl rfl ?_
  exact fe_172_2 hd 100000 _ _ _ h

/-! ZoneSharesModel.fills()V -/
theorem mx_173 : iv_mx 173 = 2 := by decide +kernel
theorem rt_173 : iv_rt 173 = none := by decide +kernel
def fm_173_39 : Nat → Int32 → fx_S → Option (fx_S)
  | 0, _, _ => none
  | n + 1, x1, σ =>
    if (σ.1 215 17) ≤ x1 then (
      some σ) else (
      (fm_163 x1 σ).bind fun q5 =>
      fm_173_39 n (x1 + (1 : Int32)) q5)
theorem fe_173_39 {d : Nat} (hd : 30 ≤ d) : ∀ (n : Nat) (x1 : Int32) (σ : fx_S) (q : fx_S), fm_173_39 n x1 σ = some q → fx_E none 173 d 39 [some (.ref 215), some (.int x1)] [] σ none q := by
  intro n
  induction n with
  | zero =>
    intro x1 σ q  h
    rw [fm_173_39] at h
    exact fx_no h
  | succ n ih =>
    intro x1 σ q  h
    rw [fm_173_39] at h
    refine fs_iload_n (k := 1) (p := 40) (by decide +kernel) rfl rfl ?_
    refine fs_aload_n (k := 0) (p := 41) (by decide +kernel) rfl rfl ?_
    refine fs_gfi (idx := 208) (ci := 10) (j := 17) (p := 44) (by decide +kernel) rfl (by decide +kernel) fo_215 ?_
    by_cases c3 : (σ.1 215 17) ≤ x1
    · rw [if_pos c3] at h
      refine fs_icmp_ge_t (off := 14) (t := 58) (by decide +kernel) (by decide +kernel) c3 ?_
      have h := Option.some.inj h
      subst h
      exact fs_ret (by decide +kernel) rt_173
    · rw [if_neg c3] at h
      refine fs_icmp_ge_f (off := 14) (t := 58) (p := 47) (by decide +kernel) (by decide +kernel) rfl c3 ?_
      refine fs_aload_n (k := 0) (p := 48) (by decide +kernel) rfl rfl ?_
      refine fs_iload_n (k := 1) (p := 49) (by decide +kernel) rfl rfl ?_
      obtain ⟨q5, w4, h⟩ := fx_bd h
      refine fs_callV (idx := 261) (mj := 163) (ci := 10) (na := 1) (mx := 6) (p := 52) (args := [.ref 215, .int x1]) (rest := []) (al2 := [some (.ref 215), some (.int x1), none, none, none, none]) (by decide +kernel) rfl (by decide +kernel) fo_215 rfl rfl rfl rfl rfl rfl rfl (by omega) (fun d' hd' => fe_163 (by omega) w4) rfl ?_
      refine fs_iinc (k := 1) (n := 1) (p := 55) (M := 2) (al' := [some (.ref 215), some (.int (x1 + (1 : Int32)))]) (by decide +kernel) rfl kc_1 mx_173 rfl rfl rfl ?_
      refine fs_goto (off := -16) (p := 39) (by decide +kernel) (by decide +kernel) ?_
      exact ih _ _ _ h
def fm_173_2 : Nat → Int32 → fx_S → Option (fx_S)
  | 0, _, _ => none
  | n + 1, x1, σ =>
    if (σ.1 215 17) ≤ x1 then (
      (fx_ld σ 216 (3 : Int32)).bind fun v4 =>
      if ¬ v4 = (1 : Int32) then (
        fm_173_39 100000 (0 : Int32) σ) else (
        (fm_172 σ).bind fun q9 =>
        some q9)) else (
      (fm_161 x1 σ).bind fun q11 =>
      fm_173_2 n (x1 + (1 : Int32)) q11.2)
theorem fe_173_2 {d : Nat} (hd : 30 ≤ d) : ∀ (n : Nat) (x1 : Int32) (σ : fx_S) (q : fx_S), fm_173_2 n x1 σ = some q → fx_E none 173 d 2 [some (.ref 215), some (.int x1)] [] σ none q := by
  intro n
  induction n with
  | zero =>
    intro x1 σ q  h
    rw [fm_173_2] at h
    exact fx_no h
  | succ n ih =>
    intro x1 σ q  h
    rw [fm_173_2] at h
    refine fs_iload_n (k := 1) (p := 3) (by decide +kernel) rfl rfl ?_
    refine fs_aload_n (k := 0) (p := 4) (by decide +kernel) rfl rfl ?_
    refine fs_gfi (idx := 208) (ci := 10) (j := 17) (p := 7) (by decide +kernel) rfl (by decide +kernel) fo_215 ?_
    by_cases c3 : (σ.1 215 17) ≤ x1
    · rw [if_pos c3] at h
      refine fs_icmp_ge_t (off := 15) (t := 22) (by decide +kernel) (by decide +kernel) c3 ?_
      refine fs_aload_n (k := 0) (p := 23) (by decide +kernel) rfl rfl ?_
      refine fs_gfr (idx := 9) (ci := 10) (j := 0) (p := 26) (by decide +kernel) rfl (by decide +kernel) fo_215 (fr_a215_0) ?_
      refine fs_iconst (n := 3) (p := 27) (by decide +kernel) rfl kc_3 ?_
      obtain ⟨v4, w5, h⟩ := fx_bd h
      refine fs_iaload (p := 28) (by decide +kernel) rfl w5 ?_
      refine fs_iconst (n := 1) (p := 29) (by decide +kernel) rfl kc_1 ?_
      by_cases c7 : ¬ v4 = (1 : Int32)
      · rw [if_pos c7] at h
        refine fs_icmp_ne_t (off := 8) (t := 37) (by decide +kernel) (by decide +kernel) c7 ?_
        refine fs_iconst (n := 0) (p := 38) (by decide +kernel) rfl kc_0 ?_
        refine fs_istore_n (k := 1) (p := 39) (M := 2) (al' := [some (.ref 215), some (.int (0 : Int32))]) (by decide +kernel) rfl mx_173 rfl rfl ?_
        exact fe_173_39 hd 100000 _ _ _ h
      · rw [if_neg c7] at h
        refine fs_icmp_ne_f (off := 8) (t := 37) (p := 32) (by decide +kernel) (by decide +kernel) rfl c7 ?_
        refine fs_aload_n (k := 0) (p := 33) (by decide +kernel) rfl rfl ?_
        obtain ⟨q9, w8, h⟩ := fx_bd h
        refine fs_callV (idx := 258) (mj := 172) (ci := 10) (na := 0) (mx := 3) (p := 36) (args := [.ref 215]) (rest := []) (al2 := [some (.ref 215), none, none]) (by decide +kernel) rfl (by decide +kernel) fo_215 rfl rfl rfl rfl rfl rfl rfl (by omega) (fun d' hd' => fe_172 (by omega) w8) rfl ?_
        have h := Option.some.inj h
        subst h
        exact fs_ret (by decide +kernel) rt_173
    · rw [if_neg c3] at h
      refine fs_icmp_ge_f (off := 15) (t := 22) (p := 10) (by decide +kernel) (by decide +kernel) rfl c3 ?_
      refine fs_aload_n (k := 0) (p := 11) (by decide +kernel) rfl rfl ?_
      refine fs_iload_n (k := 1) (p := 12) (by decide +kernel) rfl rfl ?_
      obtain ⟨q11, w10, h⟩ := fx_bd h
      refine fs_callV (idx := 254) (mj := 161) (ci := 10) (na := 1) (mx := 4) (p := 15) (args := [.ref 215, .int x1]) (rest := []) (al2 := [some (.ref 215), some (.int x1), none, none]) (by decide +kernel) rfl (by decide +kernel) fo_215 rfl rfl rfl rfl rfl rfl rfl (by omega) (fun d' hd' => fe_161 (by omega) w10) rfl ?_
      refine fs_pop (p := 16) (by decide +kernel) rfl rfl ?_
      refine fs_iinc (k := 1) (n := 1) (p := 19) (M := 2) (al' := [some (.ref 215), some (.int (x1 + (1 : Int32)))]) (by decide +kernel) rfl kc_1 mx_173 rfl rfl rfl ?_
      refine fs_goto (off := -17) (p := 2) (by decide +kernel) (by decide +kernel) ?_
      exact ih _ _ _ h
def fm_173 (σ : fx_S) : Option (fx_S) :=
  fm_173_2 100000 (0 : Int32) σ
theorem fe_173 {d : Nat} (hd : 30 ≤ d) {σ : fx_S} {q : fx_S} (h : fm_173 σ = some q) : fx_E none 173 d 0 [some (.ref 215), none] [] σ none q := by
  unfold fm_173 at h
  refine fs_iconst (n := 0) (p := 1) (by decide +kernel) rfl kc_0 ?_
  refine fs_istore_n (k := 1) (p := 2) (M := 2) (al' := [some (.ref 215), some (.int (0 : Int32))]) (by decide +kernel) rfl mx_173 rfl rfl ?_
  exact fe_173_2 hd 100000 _ _ _ h

/-! ZoneSharesModel.moved(III)I -/
theorem mx_185 : iv_mx 185 = 4 := by decide +kernel
theorem rt_185 : iv_rt 185 = some .int := by decide +kernel
def fm_185 (x1 : Int32) (x2 : Int32) (x3 : Int32) (σ : fx_S) : Option (Int32 × fx_S) :=
  (fm_150 σ).bind fun q34 =>
  if (fx_b q34.1) = 0 then (
    some ((-1 : Int32), q34.2)) else (
    (fm_148 x1 q34.2).bind fun q37 =>
    if (fx_b q37.1) = 0 then (
      some ((-1 : Int32), q37.2)) else (
      (fm_130 (x2).toInt64 (-1 : Int64) (7 : Int64) q37.2).bind fun q41 =>
      if (fx_b q41.1) = 0 then (
        some ((-1 : Int32), q41.2)) else (
        (fm_130 (x3).toInt64 (-1 : Int64) (8 : Int64) q41.2).bind fun q45 =>
        if ¬ (fx_b q45.1) = 0 then (
          (fm_181 x1 q45.2).bind fun q48 =>
          (fm_173 q48).bind fun q50 =>
          if ¬ x2 = (-1 : Int32) then (
            if ¬ x3 = (-1 : Int32) then (
              (fm_160 x2 x3 q50).bind fun q54 =>
              (fx_ldl q54.2 224 q54.1).bind fun v55 =>
              some ((v55).toInt32, q54.2)) else (
              (fm_182 x2 q50).bind fun q59 =>
              some (q59.1, q59.2))) else (
            if ¬ x3 = (-1 : Int32) then (
              (fm_183 x3 q50).bind fun q62 =>
              some (q62.1, q62.2)) else (
              (fm_184 q50).bind fun q64 =>
              some (q64.1, q64.2)))) else (
          some ((-1 : Int32), q45.2)))))
theorem fe_185 {d : Nat} (hd : 31 ≤ d) {x1 : Int32} {x2 : Int32} {x3 : Int32} {σ : fx_S} {q : Int32 × fx_S} (h : fm_185 x1 x2 x3 σ = some q) : fx_E none 185 d 0 [some (.ref 215), some (.int x1), some (.int x2), some (.int x3)] [] σ (some (.int q.1)) q.2 := by
  unfold fm_185 at h
  refine fs_aload_n (k := 0) (p := 1) (by decide +kernel) rfl rfl ?_
  obtain ⟨q34, w33, h⟩ := fx_bd h
  refine fs_callV (idx := 303) (mj := 150) (ci := 10) (na := 0) (mx := 1) (p := 4) (args := [.ref 215]) (rest := []) (al2 := [some (.ref 215)]) (by decide +kernel) rfl (by decide +kernel) fo_215 rfl rfl rfl rfl rfl rfl rfl (by omega) (fun d' hd' => fe_150 (by omega) w33) rfl ?_
  by_cases c35 : (fx_b q34.1) = 0
  · rw [if_pos c35] at h
    refine fs_if_eq_t (off := 38) (t := 42) (by decide +kernel) (by decide +kernel) c35 ?_
    refine fs_iconst (n := -1) (p := 43) (by decide +kernel) rfl kc_m1 ?_
    have h := Option.some.inj h
    subst h
    exact fs_iret (by decide +kernel) rt_185
  · rw [if_neg c35] at h
    refine fs_if_eq_f (off := 38) (t := 42) (p := 7) (by decide +kernel) (by decide +kernel) rfl c35 ?_
    refine fs_iload_n (k := 1) (p := 8) (by decide +kernel) rfl rfl ?_
    obtain ⟨q37, w36, h⟩ := fx_bd h
    refine fs_callS (idx := 190) (mj := 148) (na := 1) (mx := 1) (p := 11) (args := [.int x1]) (rest := []) (al2 := [some (.int x1)]) (by decide +kernel) rfl (by decide +kernel) rfl rfl rfl rfl rfl rfl rfl (by omega) (fun d' hd' => fe_148 (by omega) w36) rfl ?_
    by_cases c38 : (fx_b q37.1) = 0
    · rw [if_pos c38] at h
      refine fs_if_eq_t (off := 31) (t := 42) (by decide +kernel) (by decide +kernel) c38 ?_
      refine fs_iconst (n := -1) (p := 43) (by decide +kernel) rfl kc_m1 ?_
      have h := Option.some.inj h
      subst h
      exact fs_iret (by decide +kernel) rt_185
    · rw [if_neg c38] at h
      refine fs_if_eq_f (off := 31) (t := 42) (p := 14) (by decide +kernel) (by decide +kernel) rfl c38 ?_
      refine fs_iload_n (k := 2) (p := 15) (by decide +kernel) rfl rfl ?_
      refine fs_i2l (p := 16) (by decide +kernel) rfl ?_
      refine fs_ldc2 (idx := 306) (p := 19) (x := -1) (by decide +kernel) rfl (by decide +kernel) ?_
      refine fs_ldc2 (idx := 308) (p := 22) (x := 7) (by decide +kernel) rfl (by decide +kernel) ?_
      obtain ⟨q41, w40, h⟩ := fx_bd h
      refine fs_callS (idx := 128) (mj := 130) (na := 3) (mx := 6) (p := 25) (args := [.long (x2).toInt64, .long (-1 : Int64), .long (7 : Int64)]) (rest := []) (al2 := [some (.long (x2).toInt64), none, some (.long (-1 : Int64)), none, some (.long (7 : Int64)), none]) (by decide +kernel) rfl (by decide +kernel) rfl rfl rfl rfl rfl rfl rfl (by omega) (fun d' hd' => fe_130 (by omega) w40) rfl ?_
      by_cases c42 : (fx_b q41.1) = 0
      · rw [if_pos c42] at h
        refine fs_if_eq_t (off := 17) (t := 42) (by decide +kernel) (by decide +kernel) c42 ?_
        refine fs_iconst (n := -1) (p := 43) (by decide +kernel) rfl kc_m1 ?_
        have h := Option.some.inj h
        subst h
        exact fs_iret (by decide +kernel) rt_185
      · rw [if_neg c42] at h
        refine fs_if_eq_f (off := 17) (t := 42) (p := 28) (by decide +kernel) (by decide +kernel) rfl c42 ?_
        refine fs_iload_n (k := 3) (p := 29) (by decide +kernel) rfl rfl ?_
        refine fs_i2l (p := 30) (by decide +kernel) rfl ?_
        refine fs_ldc2 (idx := 306) (p := 33) (x := -1) (by decide +kernel) rfl (by decide +kernel) ?_
        refine fs_ldc2 (idx := 310) (p := 36) (x := 8) (by decide +kernel) rfl (by decide +kernel) ?_
        obtain ⟨q45, w44, h⟩ := fx_bd h
        refine fs_callS (idx := 128) (mj := 130) (na := 3) (mx := 6) (p := 39) (args := [.long (x3).toInt64, .long (-1 : Int64), .long (8 : Int64)]) (rest := []) (al2 := [some (.long (x3).toInt64), none, some (.long (-1 : Int64)), none, some (.long (8 : Int64)), none]) (by decide +kernel) rfl (by decide +kernel) rfl rfl rfl rfl rfl rfl rfl (by omega) (fun d' hd' => fe_130 (by omega) w44) rfl ?_
        by_cases c46 : ¬ (fx_b q45.1) = 0
        · rw [if_pos c46] at h
          refine fs_if_ne_t (off := 5) (t := 44) (by decide +kernel) (by decide +kernel) c46 ?_
          refine fs_aload_n (k := 0) (p := 45) (by decide +kernel) rfl rfl ?_
          refine fs_iload_n (k := 1) (p := 46) (by decide +kernel) rfl rfl ?_
          obtain ⟨q48, w47, h⟩ := fx_bd h
          refine fs_callV (idx := 312) (mj := 181) (ci := 10) (na := 1) (mx := 5) (p := 49) (args := [.ref 215, .int x1]) (rest := []) (al2 := [some (.ref 215), some (.int x1), none, none, none]) (by decide +kernel) rfl (by decide +kernel) fo_215 rfl rfl rfl rfl rfl rfl rfl (by omega) (fun d' hd' => fe_181 (by omega) w47) rfl ?_
          refine fs_aload_n (k := 0) (p := 50) (by decide +kernel) rfl rfl ?_
          obtain ⟨q50, w49, h⟩ := fx_bd h
          refine fs_callV (idx := 315) (mj := 173) (ci := 10) (na := 0) (mx := 2) (p := 53) (args := [.ref 215]) (rest := []) (al2 := [some (.ref 215), none]) (by decide +kernel) rfl (by decide +kernel) fo_215 rfl rfl rfl rfl rfl rfl rfl (by omega) (fun d' hd' => fe_173 (by omega) w49) rfl ?_
          refine fs_iload_n (k := 2) (p := 54) (by decide +kernel) rfl rfl ?_
          refine fs_iconst (n := -1) (p := 55) (by decide +kernel) rfl kc_m1 ?_
          by_cases c51 : ¬ x2 = (-1 : Int32)
          · rw [if_pos c51] at h
            refine fs_icmp_ne_t (off := 21) (t := 76) (by decide +kernel) (by decide +kernel) c51 ?_
            refine fs_iload_n (k := 3) (p := 77) (by decide +kernel) rfl rfl ?_
            refine fs_iconst (n := -1) (p := 78) (by decide +kernel) rfl kc_m1 ?_
            by_cases c52 : ¬ x3 = (-1 : Int32)
            · rw [if_pos c52] at h
              refine fs_icmp_ne_t (off := 11) (t := 89) (by decide +kernel) (by decide +kernel) c52 ?_
              refine fs_aload_n (k := 0) (p := 90) (by decide +kernel) rfl rfl ?_
              refine fs_gfr (idx := 36) (ci := 10) (j := 15) (p := 93) (by decide +kernel) rfl (by decide +kernel) fo_215 (fr_a215_15) ?_
              refine fs_iload_n (k := 2) (p := 94) (by decide +kernel) rfl rfl ?_
              refine fs_iload_n (k := 3) (p := 95) (by decide +kernel) rfl rfl ?_
              obtain ⟨q54, w53, h⟩ := fx_bd h
              refine fs_callS (idx := 214) (mj := 160) (na := 2) (mx := 2) (p := 98) (args := [.int x2, .int x3]) (rest := [.ref 224]) (al2 := [some (.int x2), some (.int x3)]) (by decide +kernel) rfl (by decide +kernel) rfl rfl rfl rfl rfl rfl rfl (by omega) (fun d' hd' => fe_160 (by omega) w53) rfl ?_
              obtain ⟨v55, w56, h⟩ := fx_bd h
              refine fs_laload (p := 99) (by decide +kernel) rfl w56 ?_
              refine fs_l2i (p := 100) (by decide +kernel) rfl ?_
              have h := Option.some.inj h
              subst h
              exact fs_iret (by decide +kernel) rt_185
            · rw [if_neg c52] at h
              refine fs_icmp_ne_f (off := 11) (t := 89) (p := 81) (by decide +kernel) (by decide +kernel) rfl c52 ?_
              refine fs_aload_n (k := 0) (p := 82) (by decide +kernel) rfl rfl ?_
              refine fs_iload_n (k := 2) (p := 83) (by decide +kernel) rfl rfl ?_
              obtain ⟨q59, w58, h⟩ := fx_bd h
              refine fs_callV (idx := 300) (mj := 182) (ci := 10) (na := 1) (mx := 4) (p := 86) (args := [.ref 215, .int x2]) (rest := []) (al2 := [some (.ref 215), some (.int x2), none, none]) (by decide +kernel) rfl (by decide +kernel) fo_215 rfl rfl rfl rfl rfl rfl rfl (by omega) (fun d' hd' => fe_182 (by omega) w58) rfl ?_
              refine fs_goto (off := 14) (p := 100) (by decide +kernel) (by decide +kernel) ?_
              have h := Option.some.inj h
              subst h
              exact fs_iret (by decide +kernel) rt_185
          · rw [if_neg c51] at h
            refine fs_icmp_ne_f (off := 21) (t := 76) (p := 58) (by decide +kernel) (by decide +kernel) rfl c51 ?_
            refine fs_iload_n (k := 3) (p := 59) (by decide +kernel) rfl rfl ?_
            refine fs_iconst (n := -1) (p := 60) (by decide +kernel) rfl kc_m1 ?_
            by_cases c60 : ¬ x3 = (-1 : Int32)
            · rw [if_pos c60] at h
              refine fs_icmp_ne_t (off := 10) (t := 70) (by decide +kernel) (by decide +kernel) c60 ?_
              refine fs_aload_n (k := 0) (p := 71) (by decide +kernel) rfl rfl ?_
              refine fs_iload_n (k := 3) (p := 72) (by decide +kernel) rfl rfl ?_
              obtain ⟨q62, w61, h⟩ := fx_bd h
              refine fs_callV (idx := 321) (mj := 183) (ci := 10) (na := 1) (mx := 4) (p := 75) (args := [.ref 215, .int x3]) (rest := []) (al2 := [some (.ref 215), some (.int x3), none, none]) (by decide +kernel) rfl (by decide +kernel) fo_215 rfl rfl rfl rfl rfl rfl rfl (by omega) (fun d' hd' => fe_183 (by omega) w61) rfl ?_
              have h := Option.some.inj h
              subst h
              exact fs_iret (by decide +kernel) rt_185
            · rw [if_neg c60] at h
              refine fs_icmp_ne_f (off := 10) (t := 70) (p := 63) (by decide +kernel) (by decide +kernel) rfl c60 ?_
              refine fs_aload_n (k := 0) (p := 64) (by decide +kernel) rfl rfl ?_
              obtain ⟨q64, w63, h⟩ := fx_bd h
              refine fs_callV (idx := 318) (mj := 184) (ci := 10) (na := 0) (mx := 3) (p := 67) (args := [.ref 215]) (rest := []) (al2 := [some (.ref 215), none, none]) (by decide +kernel) rfl (by decide +kernel) fo_215 rfl rfl rfl rfl rfl rfl rfl (by omega) (fun d' hd' => fe_184 (by omega) w63) rfl ?_
              refine fs_goto (off := 8) (p := 75) (by decide +kernel) (by decide +kernel) ?_
              have h := Option.some.inj h
              subst h
              exact fs_iret (by decide +kernel) rt_185
        · rw [if_neg c46] at h
          refine fs_if_ne_f (off := 5) (t := 44) (p := 42) (by decide +kernel) (by decide +kernel) rfl c46 ?_
          refine fs_iconst (n := -1) (p := 43) (by decide +kernel) rfl kc_m1 ?_
          have h := Option.some.inj h
          subst h
          exact fs_iret (by decide +kernel) rt_185

/-! ZoneSharesModel.coarse(III)I -/
theorem mx_188 : iv_mx 188 = 6 := by decide +kernel
theorem rt_188 : iv_rt 188 = some .int := by decide +kernel
def fm_188_102 (k_73 : Int32 → Int32 → Int32 → fx_S → Option (Int32 × fx_S)) (x2 : Int32) (x5 : Int32) (s0 : Int32) (s1 : Int32) (σ : fx_S) : Option (Int32 × fx_S) :=
  k_73 x2 (s0 + s1) (x5 + (1 : Int32)) σ
theorem fe_188_102 {d : Nat} (hd : 31 ≤ d) {k_73 : Int32 → Int32 → Int32 → fx_S → Option (Int32 × fx_S)} (hk_73 : ∀ (x2 : Int32) (x4 : Int32) (x5 : Int32) (o1 : Option Value) (o3 : Option Value) (σ : fx_S) (q : Int32 × fx_S), k_73 x2 x4 x5 σ = some q → fx_E none 188 d 73 [some (.ref 215), o1, some (.int x2), o3, some (.int x4), some (.int x5)] [] σ (some (.int q.1)) q.2) (x2 : Int32) (x5 : Int32) (s0 : Int32) (s1 : Int32) (o1 : Option Value) (o3 : Option Value) (o4 : Option Value) (σ : fx_S) (q : Int32 × fx_S) (h : fm_188_102 k_73  x2 x5 s0 s1 σ = some q) : fx_E none 188 d 102 [some (.ref 215), o1, some (.int x2), o3, o4, some (.int x5)] [.int s1, .int s0] σ (some (.int q.1)) q.2 := by
  unfold fm_188_102 at h
  refine fs_iadd (p := 103) (by decide +kernel) rfl ?_
  refine fs_istore (k := 4) (p := 105) (M := 6) (al' := [some (.ref 215), o1, some (.int x2), (fx_kl o3), some (.int (s0 + s1)), some (.int x5)]) (by decide +kernel) rfl mx_188 rfl rfl ?_
  refine fs_iinc (k := 5) (n := 1) (p := 108) (M := 6) (al' := [some (.ref 215), o1, some (.int x2), (fx_kl o3), some (.int (s0 + s1)), some (.int (x5 + (1 : Int32)))]) (by decide +kernel) rfl kc_1 mx_188 rfl rfl rfl ?_
  refine fs_goto (off := -35) (p := 73) (by decide +kernel) (by decide +kernel) ?_
  exact hk_73 _ _ _ _ _ _ _ h
def fm_188_73 : Nat → Int32 → Int32 → Int32 → fx_S → Option (Int32 × fx_S)
  | 0, _, _, _, _ => none
  | n + 1, x2, x4, x5, σ =>
    if (8 : Int32) ≤ x5 then (
      some (x4, σ)) else (
      (fm_186 x5 σ).bind fun q4 =>
      if ¬ q4.1 = x2 then (
        fm_188_102 (fm_188_73 n) x2 x5 x4 (0 : Int32) q4.2) else (
        (fm_183 x5 q4.2).bind fun q9 =>
        fm_188_102 (fm_188_73 n) x2 x5 x4 q9.1 q9.2))
theorem fe_188_73 {d : Nat} (hd : 31 ≤ d) : ∀ (n : Nat) (x2 : Int32) (x4 : Int32) (x5 : Int32) (o1 : Option Value) (o3 : Option Value) (σ : fx_S) (q : Int32 × fx_S), fm_188_73 n x2 x4 x5 σ = some q → fx_E none 188 d 73 [some (.ref 215), o1, some (.int x2), o3, some (.int x4), some (.int x5)] [] σ (some (.int q.1)) q.2 := by
  intro n
  induction n with
  | zero =>
    intro x2 x4 x5 o1 o3 σ q  h
    rw [fm_188_73] at h
    exact fx_no h
  | succ n ih =>
    intro x2 x4 x5 o1 o3 σ q  h
    rw [fm_188_73] at h
    refine fs_iload (k := 5) (p := 75) (by decide +kernel) rfl rfl ?_
    refine fs_bipush (n := 8) (p := 77) (by decide +kernel) rfl kb_8 ?_
    by_cases c2 : (8 : Int32) ≤ x5
    · rw [if_pos c2] at h
      refine fs_icmp_ge_t (off := 34) (t := 111) (by decide +kernel) (by decide +kernel) c2 ?_
      refine fs_iload (k := 4) (p := 113) (by decide +kernel) rfl rfl ?_
      have h := Option.some.inj h
      subst h
      exact fs_iret (by decide +kernel) rt_188
    · rw [if_neg c2] at h
      refine fs_icmp_ge_f (off := 34) (t := 111) (p := 80) (by decide +kernel) (by decide +kernel) rfl c2 ?_
      refine fs_iload (k := 4) (p := 82) (by decide +kernel) rfl rfl ?_
      refine fs_aload_n (k := 0) (p := 83) (by decide +kernel) rfl rfl ?_
      refine fs_iload (k := 5) (p := 85) (by decide +kernel) rfl rfl ?_
      obtain ⟨q4, w3, h⟩ := fx_bd h
      refine fs_callV (idx := 324) (mj := 186) (ci := 10) (na := 1) (mx := 2) (p := 88) (args := [.ref 215, .int x5]) (rest := [.int x4]) (al2 := [some (.ref 215), some (.int x5)]) (by decide +kernel) rfl (by decide +kernel) fo_215 rfl rfl rfl rfl rfl rfl rfl (by omega) (fun d' hd' => fe_186 (by omega) w3) rfl ?_
      refine fs_iload_n (k := 2) (p := 89) (by decide +kernel) rfl rfl ?_
      by_cases c7 : ¬ q4.1 = x2
      · rw [if_pos c7] at h
        refine fs_icmp_ne_t (off := 12) (t := 101) (by decide +kernel) (by decide +kernel) c7 ?_
        refine fs_iconst (n := 0) (p := 102) (by decide +kernel) rfl kc_0 ?_
        exact fe_188_102 hd ih _ _ _ _ _ _ _ _ _ h
      · rw [if_neg c7] at h
        refine fs_icmp_ne_f (off := 12) (t := 101) (p := 92) (by decide +kernel) (by decide +kernel) rfl c7 ?_
        refine fs_aload_n (k := 0) (p := 93) (by decide +kernel) rfl rfl ?_
        refine fs_iload (k := 5) (p := 95) (by decide +kernel) rfl rfl ?_
        obtain ⟨q9, w8, h⟩ := fx_bd h
        refine fs_callV (idx := 321) (mj := 183) (ci := 10) (na := 1) (mx := 4) (p := 98) (args := [.ref 215, .int x5]) (rest := [.int x4]) (al2 := [some (.ref 215), some (.int x5), none, none]) (by decide +kernel) rfl (by decide +kernel) fo_215 rfl rfl rfl rfl rfl rfl rfl (by omega) (fun d' hd' => fe_183 (by omega) w8) rfl ?_
        refine fs_goto (off := 4) (p := 102) (by decide +kernel) (by decide +kernel) ?_
        exact fe_188_102 hd ih _ _ _ _ _ _ _ _ _ h
def fm_188 (x1 : Int32) (x2 : Int32) (x3 : Int32) (σ : fx_S) : Option (Int32 × fx_S) :=
  (fm_150 σ).bind fun q36 =>
  if (fx_b q36.1) = 0 then (
    some ((-1 : Int32), q36.2)) else (
    (fm_148 x1 q36.2).bind fun q39 =>
    if (fx_b q39.1) = 0 then (
      some ((-1 : Int32), q39.2)) else (
      (fm_130 (x2).toInt64 (0 : Int64) (3 : Int64) q39.2).bind fun q43 =>
      if (fx_b q43.1) = 0 then (
        some ((-1 : Int32), q43.2)) else (
        (fm_130 (x3).toInt64 (0 : Int64) (1 : Int64) q43.2).bind fun q47 =>
        if ¬ (fx_b q47.1) = 0 then (
          if ¬ x3 = (1 : Int32) then (
            (fm_181 x1 q47.2).bind fun q51 =>
            (fm_173 q51).bind fun q53 =>
            fm_188_73 100000 x2 (0 : Int32) (0 : Int32) q53) else (
            (fm_187 x1 q47.2).bind fun q55 =>
            (fm_173 q55).bind fun q57 =>
            (fm_183 x2 q57).bind fun q59 =>
            some (q59.1, q59.2))) else (
          some ((-1 : Int32), q47.2)))))
theorem fe_188 {d : Nat} (hd : 31 ≤ d) {x1 : Int32} {x2 : Int32} {x3 : Int32} {σ : fx_S} {q : Int32 × fx_S} (h : fm_188 x1 x2 x3 σ = some q) : fx_E none 188 d 0 [some (.ref 215), some (.int x1), some (.int x2), some (.int x3), none, none] [] σ (some (.int q.1)) q.2 := by
  unfold fm_188 at h
  refine fs_aload_n (k := 0) (p := 1) (by decide +kernel) rfl rfl ?_
  obtain ⟨q36, w35, h⟩ := fx_bd h
  refine fs_callV (idx := 303) (mj := 150) (ci := 10) (na := 0) (mx := 1) (p := 4) (args := [.ref 215]) (rest := []) (al2 := [some (.ref 215)]) (by decide +kernel) rfl (by decide +kernel) fo_215 rfl rfl rfl rfl rfl rfl rfl (by omega) (fun d' hd' => fe_150 (by omega) w35) rfl ?_
  by_cases c37 : (fx_b q36.1) = 0
  · rw [if_pos c37] at h
    refine fs_if_eq_t (off := 32) (t := 36) (by decide +kernel) (by decide +kernel) c37 ?_
    refine fs_iconst (n := -1) (p := 37) (by decide +kernel) rfl kc_m1 ?_
    have h := Option.some.inj h
    subst h
    exact fs_iret (by decide +kernel) rt_188
  · rw [if_neg c37] at h
    refine fs_if_eq_f (off := 32) (t := 36) (p := 7) (by decide +kernel) (by decide +kernel) rfl c37 ?_
    refine fs_iload_n (k := 1) (p := 8) (by decide +kernel) rfl rfl ?_
    obtain ⟨q39, w38, h⟩ := fx_bd h
    refine fs_callS (idx := 190) (mj := 148) (na := 1) (mx := 1) (p := 11) (args := [.int x1]) (rest := []) (al2 := [some (.int x1)]) (by decide +kernel) rfl (by decide +kernel) rfl rfl rfl rfl rfl rfl rfl (by omega) (fun d' hd' => fe_148 (by omega) w38) rfl ?_
    by_cases c40 : (fx_b q39.1) = 0
    · rw [if_pos c40] at h
      refine fs_if_eq_t (off := 25) (t := 36) (by decide +kernel) (by decide +kernel) c40 ?_
      refine fs_iconst (n := -1) (p := 37) (by decide +kernel) rfl kc_m1 ?_
      have h := Option.some.inj h
      subst h
      exact fs_iret (by decide +kernel) rt_188
    · rw [if_neg c40] at h
      refine fs_if_eq_f (off := 25) (t := 36) (p := 14) (by decide +kernel) (by decide +kernel) rfl c40 ?_
      refine fs_iload_n (k := 2) (p := 15) (by decide +kernel) rfl rfl ?_
      refine fs_i2l (p := 16) (by decide +kernel) rfl ?_
      refine fs_lconst (n := 0) (p := 17) (by decide +kernel) rfl kl_0 ?_
      refine fs_ldc2 (idx := 327) (p := 20) (x := 3) (by decide +kernel) rfl (by decide +kernel) ?_
      obtain ⟨q43, w42, h⟩ := fx_bd h
      refine fs_callS (idx := 128) (mj := 130) (na := 3) (mx := 6) (p := 23) (args := [.long (x2).toInt64, .long (0 : Int64), .long (3 : Int64)]) (rest := []) (al2 := [some (.long (x2).toInt64), none, some (.long (0 : Int64)), none, some (.long (3 : Int64)), none]) (by decide +kernel) rfl (by decide +kernel) rfl rfl rfl rfl rfl rfl rfl (by omega) (fun d' hd' => fe_130 (by omega) w42) rfl ?_
      by_cases c44 : (fx_b q43.1) = 0
      · rw [if_pos c44] at h
        refine fs_if_eq_t (off := 13) (t := 36) (by decide +kernel) (by decide +kernel) c44 ?_
        refine fs_iconst (n := -1) (p := 37) (by decide +kernel) rfl kc_m1 ?_
        have h := Option.some.inj h
        subst h
        exact fs_iret (by decide +kernel) rt_188
      · rw [if_neg c44] at h
        refine fs_if_eq_f (off := 13) (t := 36) (p := 26) (by decide +kernel) (by decide +kernel) rfl c44 ?_
        refine fs_iload_n (k := 3) (p := 27) (by decide +kernel) rfl rfl ?_
        refine fs_i2l (p := 28) (by decide +kernel) rfl ?_
        refine fs_lconst (n := 0) (p := 29) (by decide +kernel) rfl kl_0 ?_
        refine fs_lconst (n := 1) (p := 30) (by decide +kernel) rfl kl_1 ?_
        obtain ⟨q47, w46, h⟩ := fx_bd h
        refine fs_callS (idx := 128) (mj := 130) (na := 3) (mx := 6) (p := 33) (args := [.long (x3).toInt64, .long (0 : Int64), .long (1 : Int64)]) (rest := []) (al2 := [some (.long (x3).toInt64), none, some (.long (0 : Int64)), none, some (.long (1 : Int64)), none]) (by decide +kernel) rfl (by decide +kernel) rfl rfl rfl rfl rfl rfl rfl (by omega) (fun d' hd' => fe_130 (by omega) w46) rfl ?_
        by_cases c48 : ¬ (fx_b q47.1) = 0
        · rw [if_pos c48] at h
          refine fs_if_ne_t (off := 5) (t := 38) (by decide +kernel) (by decide +kernel) c48 ?_
          refine fs_iload_n (k := 3) (p := 39) (by decide +kernel) rfl rfl ?_
          refine fs_iconst (n := 1) (p := 40) (by decide +kernel) rfl kc_1 ?_
          by_cases c49 : ¬ x3 = (1 : Int32)
          · rw [if_pos c49] at h
            refine fs_icmp_ne_t (off := 18) (t := 58) (by decide +kernel) (by decide +kernel) c49 ?_
            refine fs_aload_n (k := 0) (p := 59) (by decide +kernel) rfl rfl ?_
            refine fs_iload_n (k := 1) (p := 60) (by decide +kernel) rfl rfl ?_
            obtain ⟨q51, w50, h⟩ := fx_bd h
            refine fs_callV (idx := 312) (mj := 181) (ci := 10) (na := 1) (mx := 5) (p := 63) (args := [.ref 215, .int x1]) (rest := []) (al2 := [some (.ref 215), some (.int x1), none, none, none]) (by decide +kernel) rfl (by decide +kernel) fo_215 rfl rfl rfl rfl rfl rfl rfl (by omega) (fun d' hd' => fe_181 (by omega) w50) rfl ?_
            refine fs_aload_n (k := 0) (p := 64) (by decide +kernel) rfl rfl ?_
            obtain ⟨q53, w52, h⟩ := fx_bd h
            refine fs_callV (idx := 315) (mj := 173) (ci := 10) (na := 0) (mx := 2) (p := 67) (args := [.ref 215]) (rest := []) (al2 := [some (.ref 215), none]) (by decide +kernel) rfl (by decide +kernel) fo_215 rfl rfl rfl rfl rfl rfl rfl (by omega) (fun d' hd' => fe_173 (by omega) w52) rfl ?_
            refine fs_iconst (n := 0) (p := 68) (by decide +kernel) rfl kc_0 ?_
            refine fs_istore (k := 4) (p := 70) (M := 6) (al' := [some (.ref 215), some (.int x1), some (.int x2), some (.int x3), some (.int (0 : Int32)), none]) (by decide +kernel) rfl mx_188 rfl rfl ?_
            refine fs_iconst (n := 0) (p := 71) (by decide +kernel) rfl kc_0 ?_
            refine fs_istore (k := 5) (p := 73) (M := 6) (al' := [some (.ref 215), some (.int x1), some (.int x2), some (.int x3), some (.int (0 : Int32)), some (.int (0 : Int32))]) (by decide +kernel) rfl mx_188 rfl rfl ?_
            exact fe_188_73 hd 100000 _ _ _ _ _ _ _ h
          · rw [if_neg c49] at h
            refine fs_icmp_ne_f (off := 18) (t := 58) (p := 43) (by decide +kernel) (by decide +kernel) rfl c49 ?_
            refine fs_aload_n (k := 0) (p := 44) (by decide +kernel) rfl rfl ?_
            refine fs_iload_n (k := 1) (p := 45) (by decide +kernel) rfl rfl ?_
            obtain ⟨q55, w54, h⟩ := fx_bd h
            refine fs_callV (idx := 329) (mj := 187) (ci := 10) (na := 1) (mx := 5) (p := 48) (args := [.ref 215, .int x1]) (rest := []) (al2 := [some (.ref 215), some (.int x1), none, none, none]) (by decide +kernel) rfl (by decide +kernel) fo_215 rfl rfl rfl rfl rfl rfl rfl (by omega) (fun d' hd' => fe_187 (by omega) w54) rfl ?_
            refine fs_aload_n (k := 0) (p := 49) (by decide +kernel) rfl rfl ?_
            obtain ⟨q57, w56, h⟩ := fx_bd h
            refine fs_callV (idx := 315) (mj := 173) (ci := 10) (na := 0) (mx := 2) (p := 52) (args := [.ref 215]) (rest := []) (al2 := [some (.ref 215), none]) (by decide +kernel) rfl (by decide +kernel) fo_215 rfl rfl rfl rfl rfl rfl rfl (by omega) (fun d' hd' => fe_173 (by omega) w56) rfl ?_
            refine fs_aload_n (k := 0) (p := 53) (by decide +kernel) rfl rfl ?_
            refine fs_iload_n (k := 2) (p := 54) (by decide +kernel) rfl rfl ?_
            obtain ⟨q59, w58, h⟩ := fx_bd h
            refine fs_callV (idx := 321) (mj := 183) (ci := 10) (na := 1) (mx := 4) (p := 57) (args := [.ref 215, .int x2]) (rest := []) (al2 := [some (.ref 215), some (.int x2), none, none]) (by decide +kernel) rfl (by decide +kernel) fo_215 rfl rfl rfl rfl rfl rfl rfl (by omega) (fun d' hd' => fe_183 (by omega) w58) rfl ?_
            have h := Option.some.inj h
            subst h
            exact fs_iret (by decide +kernel) rt_188
        · rw [if_neg c48] at h
          refine fs_if_ne_f (off := 5) (t := 38) (p := 36) (by decide +kernel) (by decide +kernel) rfl c48 ?_
          refine fs_iconst (n := -1) (p := 37) (by decide +kernel) rfl kc_m1 ?_
          have h := Option.some.inj h
          subst h
          exact fs_iret (by decide +kernel) rt_188

/-! ZoneSharesModel.byWay(II)I -/
theorem mx_189 : iv_mx 189 = 4 := by decide +kernel
theorem rt_189 : iv_rt 189 = some .int := by decide +kernel
def fm_189_110 (k_70 : Int32 → Int32 → Int32 → fx_S → Option (Int32 × fx_S)) (x1 : Int32) (x2 : Int32) (x3 : Int32) (σ : fx_S) : Option (Int32 × fx_S) :=
  k_70 x1 x2 (x3 + (1 : Int32)) σ
theorem fe_189_110 {d : Nat} (hd : 31 ≤ d) {k_70 : Int32 → Int32 → Int32 → fx_S → Option (Int32 × fx_S)} (hk_70 : ∀ (x1 : Int32) (x2 : Int32) (x3 : Int32) (σ : fx_S) (q : Int32 × fx_S), k_70 x1 x2 x3 σ = some q → fx_E none 189 d 70 [some (.ref 215), some (.int x1), some (.int x2), some (.int x3)] [] σ (some (.int q.1)) q.2) (x1 : Int32) (x2 : Int32) (x3 : Int32) (σ : fx_S) (q : Int32 × fx_S) (h : fm_189_110 k_70  x1 x2 x3 σ = some q) : fx_E none 189 d 110 [some (.ref 215), some (.int x1), some (.int x2), some (.int x3)] [] σ (some (.int q.1)) q.2 := by
  unfold fm_189_110 at h
  refine fs_iinc (k := 3) (n := 1) (p := 113) (M := 4) (al' := [some (.ref 215), some (.int x1), some (.int x2), some (.int (x3 + (1 : Int32)))]) (by decide +kernel) rfl kc_1 mx_189 rfl rfl rfl ?_
  refine fs_goto (off := -43) (p := 70) (by decide +kernel) (by decide +kernel) ?_
  exact hk_70 _ _ _ _ _ h
def fm_189_70 : Nat → Int32 → Int32 → Int32 → fx_S → Option (Int32 × fx_S)
  | 0, _, _, _, _ => none
  | n + 1, x1, x2, x3, σ =>
    if (4 : Int32) ≤ x3 then (
      (fm_173 σ).bind fun q4 =>
      (fm_183 x2 q4).bind fun q6 =>
      some (q6.1, q6.2)) else (
      (fx_ld σ 238 x3).bind fun v7 =>
      (fx_stl σ 221 x3 (v7).toInt64).bind fun t11 =>
      (fm_190 x1 x3 (0 : Int32) t11).bind fun q15 =>
      (fm_161 x3 q15).bind fun q17 =>
      if ¬ q17.1 = 0 then (
        fm_189_110 (fm_189_70 n) x1 x2 x3 q17.2) else (
        (fm_190 x1 x3 (1 : Int32) q17.2).bind fun q21 =>
        fm_189_110 (fm_189_70 n) x1 x2 x3 q21))
theorem fe_189_70 {d : Nat} (hd : 31 ≤ d) : ∀ (n : Nat) (x1 : Int32) (x2 : Int32) (x3 : Int32) (σ : fx_S) (q : Int32 × fx_S), fm_189_70 n x1 x2 x3 σ = some q → fx_E none 189 d 70 [some (.ref 215), some (.int x1), some (.int x2), some (.int x3)] [] σ (some (.int q.1)) q.2 := by
  intro n
  induction n with
  | zero =>
    intro x1 x2 x3 σ q  h
    rw [fm_189_70] at h
    exact fx_no h
  | succ n ih =>
    intro x1 x2 x3 σ q  h
    rw [fm_189_70] at h
    refine fs_iload_n (k := 3) (p := 71) (by decide +kernel) rfl rfl ?_
    refine fs_iconst (n := 4) (p := 72) (by decide +kernel) rfl kc_4 ?_
    by_cases c2 : (4 : Int32) ≤ x3
    · rw [if_pos c2] at h
      refine fs_icmp_ge_t (off := 44) (t := 116) (by decide +kernel) (by decide +kernel) c2 ?_
      refine fs_aload_n (k := 0) (p := 117) (by decide +kernel) rfl rfl ?_
      obtain ⟨q4, w3, h⟩ := fx_bd h
      refine fs_callV (idx := 315) (mj := 173) (ci := 10) (na := 0) (mx := 2) (p := 120) (args := [.ref 215]) (rest := []) (al2 := [some (.ref 215), none]) (by decide +kernel) rfl (by decide +kernel) fo_215 rfl rfl rfl rfl rfl rfl rfl (by omega) (fun d' hd' => fe_173 (by omega) w3) rfl ?_
      refine fs_aload_n (k := 0) (p := 121) (by decide +kernel) rfl rfl ?_
      refine fs_iload_n (k := 2) (p := 122) (by decide +kernel) rfl rfl ?_
      obtain ⟨q6, w5, h⟩ := fx_bd h
      refine fs_callV (idx := 321) (mj := 183) (ci := 10) (na := 1) (mx := 4) (p := 125) (args := [.ref 215, .int x2]) (rest := []) (al2 := [some (.ref 215), some (.int x2), none, none]) (by decide +kernel) rfl (by decide +kernel) fo_215 rfl rfl rfl rfl rfl rfl rfl (by omega) (fun d' hd' => fe_183 (by omega) w5) rfl ?_
      have h := Option.some.inj h
      subst h
      exact fs_iret (by decide +kernel) rt_189
    · rw [if_neg c2] at h
      refine fs_icmp_ge_f (off := 44) (t := 116) (p := 75) (by decide +kernel) (by decide +kernel) rfl c2 ?_
      refine fs_aload_n (k := 0) (p := 76) (by decide +kernel) rfl rfl ?_
      refine fs_gfr (idx := 26) (ci := 10) (j := 12) (p := 79) (by decide +kernel) rfl (by decide +kernel) fo_215 (fr_a215_12) ?_
      refine fs_iload_n (k := 3) (p := 80) (by decide +kernel) rfl rfl ?_
      refine fs_aload_n (k := 0) (p := 81) (by decide +kernel) rfl rfl ?_
      refine fs_gfr (idx := 79) (ci := 10) (j := 33) (p := 84) (by decide +kernel) rfl (by decide +kernel) fo_215 (fr_a215_33) ?_
      refine fs_iload_n (k := 3) (p := 85) (by decide +kernel) rfl rfl ?_
      obtain ⟨v7, w8, h⟩ := fx_bd h
      refine fs_iaload (p := 86) (by decide +kernel) rfl w8 ?_
      refine fs_i2l (p := 87) (by decide +kernel) rfl ?_
      obtain ⟨t11, w12, h⟩ := fx_bd h
      refine fs_lastore (p := 88) (by decide +kernel) rfl w12 ?_
      refine fs_aload_n (k := 0) (p := 89) (by decide +kernel) rfl rfl ?_
      refine fs_iload_n (k := 1) (p := 90) (by decide +kernel) rfl rfl ?_
      refine fs_iload_n (k := 3) (p := 91) (by decide +kernel) rfl rfl ?_
      refine fs_iconst (n := 0) (p := 92) (by decide +kernel) rfl kc_0 ?_
      obtain ⟨q15, w14, h⟩ := fx_bd h
      refine fs_callV (idx := 332) (mj := 190) (ci := 10) (na := 3) (mx := 5) (p := 95) (args := [.ref 215, .int x1, .int x3, .int (0 : Int32)]) (rest := []) (al2 := [some (.ref 215), some (.int x1), some (.int x3), some (.int (0 : Int32)), none]) (by decide +kernel) rfl (by decide +kernel) fo_215 rfl rfl rfl rfl rfl rfl rfl (by omega) (fun d' hd' => fe_190 (by omega) w14) rfl ?_
      refine fs_aload_n (k := 0) (p := 96) (by decide +kernel) rfl rfl ?_
      refine fs_iload_n (k := 3) (p := 97) (by decide +kernel) rfl rfl ?_
      obtain ⟨q17, w16, h⟩ := fx_bd h
      refine fs_callV (idx := 254) (mj := 161) (ci := 10) (na := 1) (mx := 4) (p := 100) (args := [.ref 215, .int x3]) (rest := []) (al2 := [some (.ref 215), some (.int x3), none, none]) (by decide +kernel) rfl (by decide +kernel) fo_215 rfl rfl rfl rfl rfl rfl rfl (by omega) (fun d' hd' => fe_161 (by omega) w16) rfl ?_
      by_cases c19 : ¬ q17.1 = 0
      · rw [if_pos c19] at h
        refine fs_if_ne_t (off := 10) (t := 110) (by decide +kernel) (by decide +kernel) c19 ?_
        exact fe_189_110 hd ih _ _ _ _ _ h
      · rw [if_neg c19] at h
        refine fs_if_ne_f (off := 10) (t := 110) (p := 103) (by decide +kernel) (by decide +kernel) rfl c19 ?_
        refine fs_aload_n (k := 0) (p := 104) (by decide +kernel) rfl rfl ?_
        refine fs_iload_n (k := 1) (p := 105) (by decide +kernel) rfl rfl ?_
        refine fs_iload_n (k := 3) (p := 106) (by decide +kernel) rfl rfl ?_
        refine fs_iconst (n := 1) (p := 107) (by decide +kernel) rfl kc_1 ?_
        obtain ⟨q21, w20, h⟩ := fx_bd h
        refine fs_callV (idx := 332) (mj := 190) (ci := 10) (na := 3) (mx := 5) (p := 110) (args := [.ref 215, .int x1, .int x3, .int (1 : Int32)]) (rest := []) (al2 := [some (.ref 215), some (.int x1), some (.int x3), some (.int (1 : Int32)), none]) (by decide +kernel) rfl (by decide +kernel) fo_215 rfl rfl rfl rfl rfl rfl rfl (by omega) (fun d' hd' => fe_190 (by omega) w20) rfl ?_
        exact fe_189_110 hd ih _ _ _ _ _ h
def fm_189_39 : Nat → Int32 → Int32 → Int32 → fx_S → Option (Int32 × fx_S)
  | 0, _, _, _, _ => none
  | n + 1, x1, x2, x3, σ =>
    if (4 : Int32) ≤ x3 then (
      (fm_159 (4 : Int32) (8 : Int32) σ).bind fun q4 =>
      fm_189_70 100000 x1 x2 (0 : Int32) q4) else (
      (fm_183 x3 σ).bind fun q6 =>
      (fx_st q6.2 238 x3 q6.1).bind fun t7 =>
      fm_189_39 n x1 x2 (x3 + (1 : Int32)) t7)
theorem fe_189_39 {d : Nat} (hd : 31 ≤ d) : ∀ (n : Nat) (x1 : Int32) (x2 : Int32) (x3 : Int32) (σ : fx_S) (q : Int32 × fx_S), fm_189_39 n x1 x2 x3 σ = some q → fx_E none 189 d 39 [some (.ref 215), some (.int x1), some (.int x2), some (.int x3)] [] σ (some (.int q.1)) q.2 := by
  intro n
  induction n with
  | zero =>
    intro x1 x2 x3 σ q  h
    rw [fm_189_39] at h
    exact fx_no h
  | succ n ih =>
    intro x1 x2 x3 σ q  h
    rw [fm_189_39] at h
    refine fs_iload_n (k := 3) (p := 40) (by decide +kernel) rfl rfl ?_
    refine fs_iconst (n := 4) (p := 41) (by decide +kernel) rfl kc_4 ?_
    by_cases c2 : (4 : Int32) ≤ x3
    · rw [if_pos c2] at h
      refine fs_icmp_ge_t (off := 20) (t := 61) (by decide +kernel) (by decide +kernel) c2 ?_
      refine fs_aload_n (k := 0) (p := 62) (by decide +kernel) rfl rfl ?_
      refine fs_iconst (n := 4) (p := 63) (by decide +kernel) rfl kc_4 ?_
      refine fs_bipush (n := 8) (p := 65) (by decide +kernel) rfl kb_8 ?_
      obtain ⟨q4, w3, h⟩ := fx_bd h
      refine fs_callV (idx := 276) (mj := 159) (ci := 10) (na := 2) (mx := 4) (p := 68) (args := [.ref 215, .int (4 : Int32), .int (8 : Int32)]) (rest := []) (al2 := [some (.ref 215), some (.int (4 : Int32)), some (.int (8 : Int32)), none]) (by decide +kernel) rfl (by decide +kernel) fo_215 rfl rfl rfl rfl rfl rfl rfl (by omega) (fun d' hd' => fe_159 (by omega) w3) rfl ?_
      refine fs_iconst (n := 0) (p := 69) (by decide +kernel) rfl kc_0 ?_
      refine fs_istore_n (k := 3) (p := 70) (M := 4) (al' := [some (.ref 215), some (.int x1), some (.int x2), some (.int (0 : Int32))]) (by decide +kernel) rfl mx_189 rfl rfl ?_
      exact fe_189_70 hd 100000 _ _ _ _ _ h
    · rw [if_neg c2] at h
      refine fs_icmp_ge_f (off := 20) (t := 61) (p := 44) (by decide +kernel) (by decide +kernel) rfl c2 ?_
      refine fs_aload_n (k := 0) (p := 45) (by decide +kernel) rfl rfl ?_
      refine fs_gfr (idx := 79) (ci := 10) (j := 33) (p := 48) (by decide +kernel) rfl (by decide +kernel) fo_215 (fr_a215_33) ?_
      refine fs_iload_n (k := 3) (p := 49) (by decide +kernel) rfl rfl ?_
      refine fs_aload_n (k := 0) (p := 50) (by decide +kernel) rfl rfl ?_
      refine fs_iload_n (k := 3) (p := 51) (by decide +kernel) rfl rfl ?_
      obtain ⟨q6, w5, h⟩ := fx_bd h
      refine fs_callV (idx := 321) (mj := 183) (ci := 10) (na := 1) (mx := 4) (p := 54) (args := [.ref 215, .int x3]) (rest := [.int x3, .ref 238]) (al2 := [some (.ref 215), some (.int x3), none, none]) (by decide +kernel) rfl (by decide +kernel) fo_215 rfl rfl rfl rfl rfl rfl rfl (by omega) (fun d' hd' => fe_183 (by omega) w5) rfl ?_
      obtain ⟨t7, w8, h⟩ := fx_bd h
      refine fs_iastore (p := 55) (by decide +kernel) rfl w8 ?_
      refine fs_iinc (k := 3) (n := 1) (p := 58) (M := 4) (al' := [some (.ref 215), some (.int x1), some (.int x2), some (.int (x3 + (1 : Int32)))]) (by decide +kernel) rfl kc_1 mx_189 rfl rfl rfl ?_
      refine fs_goto (off := -19) (p := 39) (by decide +kernel) (by decide +kernel) ?_
      exact ih _ _ _ _ _ h
def fm_189 (x1 : Int32) (x2 : Int32) (σ : fx_S) : Option (Int32 × fx_S) :=
  (fm_150 σ).bind fun q46 =>
  if (fx_b q46.1) = 0 then (
    some ((-1 : Int32), q46.2)) else (
    (fm_148 x1 q46.2).bind fun q49 =>
    if (fx_b q49.1) = 0 then (
      some ((-1 : Int32), q49.2)) else (
      (fm_130 (x2).toInt64 (0 : Int64) (7 : Int64) q49.2).bind fun q53 =>
      if ¬ (fx_b q53.1) = 0 then (
        (fm_187 x1 q53.2).bind fun q56 =>
        (fm_173 q56).bind fun q58 =>
        fm_189_39 100000 x1 x2 (0 : Int32) q58) else (
        some ((-1 : Int32), q53.2))))
theorem fe_189 {d : Nat} (hd : 31 ≤ d) {x1 : Int32} {x2 : Int32} {σ : fx_S} {q : Int32 × fx_S} (h : fm_189 x1 x2 σ = some q) : fx_E none 189 d 0 [some (.ref 215), some (.int x1), some (.int x2), none] [] σ (some (.int q.1)) q.2 := by
  unfold fm_189 at h
  refine fs_aload_n (k := 0) (p := 1) (by decide +kernel) rfl rfl ?_
  obtain ⟨q46, w45, h⟩ := fx_bd h
  refine fs_callV (idx := 303) (mj := 150) (ci := 10) (na := 0) (mx := 1) (p := 4) (args := [.ref 215]) (rest := []) (al2 := [some (.ref 215)]) (by decide +kernel) rfl (by decide +kernel) fo_215 rfl rfl rfl rfl rfl rfl rfl (by omega) (fun d' hd' => fe_150 (by omega) w45) rfl ?_
  by_cases c47 : (fx_b q46.1) = 0
  · rw [if_pos c47] at h
    refine fs_if_eq_t (off := 22) (t := 26) (by decide +kernel) (by decide +kernel) c47 ?_
    refine fs_iconst (n := -1) (p := 27) (by decide +kernel) rfl kc_m1 ?_
    have h := Option.some.inj h
    subst h
    exact fs_iret (by decide +kernel) rt_189
  · rw [if_neg c47] at h
    refine fs_if_eq_f (off := 22) (t := 26) (p := 7) (by decide +kernel) (by decide +kernel) rfl c47 ?_
    refine fs_iload_n (k := 1) (p := 8) (by decide +kernel) rfl rfl ?_
    obtain ⟨q49, w48, h⟩ := fx_bd h
    refine fs_callS (idx := 190) (mj := 148) (na := 1) (mx := 1) (p := 11) (args := [.int x1]) (rest := []) (al2 := [some (.int x1)]) (by decide +kernel) rfl (by decide +kernel) rfl rfl rfl rfl rfl rfl rfl (by omega) (fun d' hd' => fe_148 (by omega) w48) rfl ?_
    by_cases c50 : (fx_b q49.1) = 0
    · rw [if_pos c50] at h
      refine fs_if_eq_t (off := 15) (t := 26) (by decide +kernel) (by decide +kernel) c50 ?_
      refine fs_iconst (n := -1) (p := 27) (by decide +kernel) rfl kc_m1 ?_
      have h := Option.some.inj h
      subst h
      exact fs_iret (by decide +kernel) rt_189
    · rw [if_neg c50] at h
      refine fs_if_eq_f (off := 15) (t := 26) (p := 14) (by decide +kernel) (by decide +kernel) rfl c50 ?_
      refine fs_iload_n (k := 2) (p := 15) (by decide +kernel) rfl rfl ?_
      refine fs_i2l (p := 16) (by decide +kernel) rfl ?_
      refine fs_lconst (n := 0) (p := 17) (by decide +kernel) rfl kl_0 ?_
      refine fs_ldc2 (idx := 308) (p := 20) (x := 7) (by decide +kernel) rfl (by decide +kernel) ?_
      obtain ⟨q53, w52, h⟩ := fx_bd h
      refine fs_callS (idx := 128) (mj := 130) (na := 3) (mx := 6) (p := 23) (args := [.long (x2).toInt64, .long (0 : Int64), .long (7 : Int64)]) (rest := []) (al2 := [some (.long (x2).toInt64), none, some (.long (0 : Int64)), none, some (.long (7 : Int64)), none]) (by decide +kernel) rfl (by decide +kernel) rfl rfl rfl rfl rfl rfl rfl (by omega) (fun d' hd' => fe_130 (by omega) w52) rfl ?_
      by_cases c54 : ¬ (fx_b q53.1) = 0
      · rw [if_pos c54] at h
        refine fs_if_ne_t (off := 5) (t := 28) (by decide +kernel) (by decide +kernel) c54 ?_
        refine fs_aload_n (k := 0) (p := 29) (by decide +kernel) rfl rfl ?_
        refine fs_iload_n (k := 1) (p := 30) (by decide +kernel) rfl rfl ?_
        obtain ⟨q56, w55, h⟩ := fx_bd h
        refine fs_callV (idx := 329) (mj := 187) (ci := 10) (na := 1) (mx := 5) (p := 33) (args := [.ref 215, .int x1]) (rest := []) (al2 := [some (.ref 215), some (.int x1), none, none, none]) (by decide +kernel) rfl (by decide +kernel) fo_215 rfl rfl rfl rfl rfl rfl rfl (by omega) (fun d' hd' => fe_187 (by omega) w55) rfl ?_
        refine fs_aload_n (k := 0) (p := 34) (by decide +kernel) rfl rfl ?_
        obtain ⟨q58, w57, h⟩ := fx_bd h
        refine fs_callV (idx := 315) (mj := 173) (ci := 10) (na := 0) (mx := 2) (p := 37) (args := [.ref 215]) (rest := []) (al2 := [some (.ref 215), none]) (by decide +kernel) rfl (by decide +kernel) fo_215 rfl rfl rfl rfl rfl rfl rfl (by omega) (fun d' hd' => fe_173 (by omega) w57) rfl ?_
        refine fs_iconst (n := 0) (p := 38) (by decide +kernel) rfl kc_0 ?_
        refine fs_istore_n (k := 3) (p := 39) (M := 4) (al' := [some (.ref 215), some (.int x1), some (.int x2), some (.int (0 : Int32))]) (by decide +kernel) rfl mx_189 rfl rfl ?_
        exact fe_189_39 hd 100000 _ _ _ _ _ h
      · rw [if_neg c54] at h
        refine fs_if_ne_f (off := 5) (t := 28) (p := 26) (by decide +kernel) (by decide +kernel) rfl c54 ?_
        refine fs_iconst (n := -1) (p := 27) (by decide +kernel) rfl kc_m1 ?_
        have h := Option.some.inj h
        subst h
        exact fs_iret (by decide +kernel) rt_189

/-! ZoneSharesModel.laysReturned(I)V -/
theorem mx_191 : iv_mx 191 = 5 := by decide +kernel
theorem rt_191 : iv_rt 191 = none := by decide +kernel
def fm_191_83 (k_44 : Int32 → Int32 → fx_S → Option (fx_S)) : Nat → Int32 → Int32 → Int32 → Int32 → fx_S → Option (fx_S)
  | 0, _, _, _, _, _ => none
  | n + 1, x1, x2, x3, x4, σ =>
    if (9 : Int32) ≤ x4 then (
      k_44 x1 (x2 + (1 : Int32)) σ) else (
      (fm_160 x2 x4 σ).bind fun q4 =>
      (fm_157 x1 x4 x2 x3 q4.2).bind fun q6 =>
      (fx_st q6.2 222 q4.1 q6.1).bind fun t7 =>
      fm_191_83 k_44 n x1 x2 x3 (x4 + (1 : Int32)) t7)
theorem fe_191_83 {d : Nat} (hd : 31 ≤ d) {k_44 : Int32 → Int32 → fx_S → Option (fx_S)} (hk_44 : ∀ (x1 : Int32) (x2 : Int32) (o3 : Option Value) (o4 : Option Value) (σ : fx_S) (q : fx_S), k_44 x1 x2 σ = some q → fx_E none 191 d 44 [some (.ref 215), some (.int x1), some (.int x2), o3, o4] [] σ none q) : ∀ (n : Nat) (x1 : Int32) (x2 : Int32) (x3 : Int32) (x4 : Int32) (σ : fx_S) (q : fx_S), fm_191_83 k_44 n x1 x2 x3 x4 σ = some q → fx_E none 191 d 83 [some (.ref 215), some (.int x1), some (.int x2), some (.int x3), some (.int x4)] [] σ none q := by
  intro n
  induction n with
  | zero =>
    intro x1 x2 x3 x4 σ q  h
    rw [fm_191_83] at h
    exact fx_no h
  | succ n ih =>
    intro x1 x2 x3 x4 σ q  h
    rw [fm_191_83] at h
    refine fs_iload (k := 4) (p := 85) (by decide +kernel) rfl rfl ?_
    refine fs_bipush (n := 9) (p := 87) (by decide +kernel) rfl kb_9 ?_
    by_cases c2 : (9 : Int32) ≤ x4
    · rw [if_pos c2] at h
      refine fs_icmp_ge_t (off := 29) (t := 116) (by decide +kernel) (by decide +kernel) c2 ?_
      refine fs_iinc (k := 2) (n := 1) (p := 119) (M := 5) (al' := [some (.ref 215), some (.int x1), some (.int (x2 + (1 : Int32))), some (.int x3), some (.int x4)]) (by decide +kernel) rfl kc_1 mx_191 rfl rfl rfl ?_
      refine fs_goto (off := -75) (p := 44) (by decide +kernel) (by decide +kernel) ?_
      exact hk_44 _ _ _ _ _ _ h
    · rw [if_neg c2] at h
      refine fs_icmp_ge_f (off := 29) (t := 116) (p := 90) (by decide +kernel) (by decide +kernel) rfl c2 ?_
      refine fs_aload_n (k := 0) (p := 91) (by decide +kernel) rfl rfl ?_
      refine fs_gfr (idx := 30) (ci := 10) (j := 13) (p := 94) (by decide +kernel) rfl (by decide +kernel) fo_215 (fr_a215_13) ?_
      refine fs_iload_n (k := 2) (p := 95) (by decide +kernel) rfl rfl ?_
      refine fs_iload (k := 4) (p := 97) (by decide +kernel) rfl rfl ?_
      obtain ⟨q4, w3, h⟩ := fx_bd h
      refine fs_callS (idx := 214) (mj := 160) (na := 2) (mx := 2) (p := 100) (args := [.int x2, .int x4]) (rest := [.ref 222]) (al2 := [some (.int x2), some (.int x4)]) (by decide +kernel) rfl (by decide +kernel) rfl rfl rfl rfl rfl rfl rfl (by omega) (fun d' hd' => fe_160 (by omega) w3) rfl ?_
      refine fs_aload_n (k := 0) (p := 101) (by decide +kernel) rfl rfl ?_
      refine fs_iload_n (k := 1) (p := 102) (by decide +kernel) rfl rfl ?_
      refine fs_iload (k := 4) (p := 104) (by decide +kernel) rfl rfl ?_
      refine fs_iload_n (k := 2) (p := 105) (by decide +kernel) rfl rfl ?_
      refine fs_iload_n (k := 3) (p := 106) (by decide +kernel) rfl rfl ?_
      obtain ⟨q6, w5, h⟩ := fx_bd h
      refine fs_callV (idx := 293) (mj := 157) (ci := 10) (na := 4) (mx := 8) (p := 109) (args := [.ref 215, .int x1, .int x4, .int x2, .int x3]) (rest := [.int q4.1, .ref 222]) (al2 := [some (.ref 215), some (.int x1), some (.int x4), some (.int x2), some (.int x3), none, none, none]) (by decide +kernel) rfl (by decide +kernel) fo_215 rfl rfl rfl rfl rfl rfl rfl (by omega) (fun d' hd' => fe_157 (by omega) w5) rfl ?_
      obtain ⟨t7, w8, h⟩ := fx_bd h
      refine fs_iastore (p := 110) (by decide +kernel) rfl w8 ?_
      refine fs_iinc (k := 4) (n := 1) (p := 113) (M := 5) (al' := [some (.ref 215), some (.int x1), some (.int x2), some (.int x3), some (.int (x4 + (1 : Int32)))]) (by decide +kernel) rfl kc_1 mx_191 rfl rfl rfl ?_
      refine fs_goto (off := -30) (p := 83) (by decide +kernel) (by decide +kernel) ?_
      exact ih _ _ _ _ _ _ h
def fm_191_79 (k_44 : Int32 → Int32 → fx_S → Option (fx_S)) (x1 : Int32) (x2 : Int32) (s0 : Int32) (σ : fx_S) : Option (fx_S) :=
  fm_191_83 k_44 100000 x1 x2 s0 (0 : Int32) σ
theorem fe_191_79 {d : Nat} (hd : 31 ≤ d) {k_44 : Int32 → Int32 → fx_S → Option (fx_S)} (hk_44 : ∀ (x1 : Int32) (x2 : Int32) (o3 : Option Value) (o4 : Option Value) (σ : fx_S) (q : fx_S), k_44 x1 x2 σ = some q → fx_E none 191 d 44 [some (.ref 215), some (.int x1), some (.int x2), o3, o4] [] σ none q) (x1 : Int32) (x2 : Int32) (s0 : Int32) (o3 : Option Value) (o4 : Option Value) (σ : fx_S) (q : fx_S) (h : fm_191_79 k_44  x1 x2 s0 σ = some q) : fx_E none 191 d 79 [some (.ref 215), some (.int x1), some (.int x2), o3, o4] [.int s0] σ none q := by
  unfold fm_191_79 at h
  refine fs_istore_n (k := 3) (p := 80) (M := 5) (al' := [some (.ref 215), some (.int x1), some (.int x2), some (.int s0), o4]) (by decide +kernel) rfl mx_191 rfl rfl ?_
  refine fs_iconst (n := 0) (p := 81) (by decide +kernel) rfl kc_0 ?_
  refine fs_istore (k := 4) (p := 83) (M := 5) (al' := [some (.ref 215), some (.int x1), some (.int x2), some (.int s0), some (.int (0 : Int32))]) (by decide +kernel) rfl mx_191 rfl rfl ?_
  exact fe_191_83 hd hk_44 100000 _ _ _ _ _ _ h
def fm_191_44 : Nat → Int32 → Int32 → fx_S → Option (fx_S)
  | 0, _, _, _ => none
  | n + 1, x1, x2, σ =>
    if (8 : Int32) ≤ x2 then (
      (fm_173 σ).bind fun q4 =>
      some q4) else (
      (fx_ld σ 239 x2).bind fun v5 =>
      (fx_stl σ 221 x2 (v5).toInt64).bind fun t9 =>
      (fm_157 x1 (-1 : Int32) x2 (0 : Int32) t9).bind fun q13 =>
      if ¬ q13.1 = 0 then (
        fm_191_79 (fm_191_44 n) x1 x2 (0 : Int32) q13.2) else (
        fm_191_79 (fm_191_44 n) x1 x2 (1 : Int32) q13.2))
theorem fe_191_44 {d : Nat} (hd : 31 ≤ d) : ∀ (n : Nat) (x1 : Int32) (x2 : Int32) (o3 : Option Value) (o4 : Option Value) (σ : fx_S) (q : fx_S), fm_191_44 n x1 x2 σ = some q → fx_E none 191 d 44 [some (.ref 215), some (.int x1), some (.int x2), o3, o4] [] σ none q := by
  intro n
  induction n with
  | zero =>
    intro x1 x2 o3 o4 σ q  h
    rw [fm_191_44] at h
    exact fx_no h
  | succ n ih =>
    intro x1 x2 o3 o4 σ q  h
    rw [fm_191_44] at h
    refine fs_iload_n (k := 2) (p := 45) (by decide +kernel) rfl rfl ?_
    refine fs_bipush (n := 8) (p := 47) (by decide +kernel) rfl kb_8 ?_
    by_cases c2 : (8 : Int32) ≤ x2
    · rw [if_pos c2] at h
      refine fs_icmp_ge_t (off := 75) (t := 122) (by decide +kernel) (by decide +kernel) c2 ?_
      refine fs_aload_n (k := 0) (p := 123) (by decide +kernel) rfl rfl ?_
      obtain ⟨q4, w3, h⟩ := fx_bd h
      refine fs_callV (idx := 315) (mj := 173) (ci := 10) (na := 0) (mx := 2) (p := 126) (args := [.ref 215]) (rest := []) (al2 := [some (.ref 215), none]) (by decide +kernel) rfl (by decide +kernel) fo_215 rfl rfl rfl rfl rfl rfl rfl (by omega) (fun d' hd' => fe_173 (by omega) w3) rfl ?_
      have h := Option.some.inj h
      subst h
      exact fs_ret (by decide +kernel) rt_191
    · rw [if_neg c2] at h
      refine fs_icmp_ge_f (off := 75) (t := 122) (p := 50) (by decide +kernel) (by decide +kernel) rfl c2 ?_
      refine fs_aload_n (k := 0) (p := 51) (by decide +kernel) rfl rfl ?_
      refine fs_gfr (idx := 26) (ci := 10) (j := 12) (p := 54) (by decide +kernel) rfl (by decide +kernel) fo_215 (fr_a215_12) ?_
      refine fs_iload_n (k := 2) (p := 55) (by decide +kernel) rfl rfl ?_
      refine fs_aload_n (k := 0) (p := 56) (by decide +kernel) rfl rfl ?_
      refine fs_gfr (idx := 82) (ci := 10) (j := 34) (p := 59) (by decide +kernel) rfl (by decide +kernel) fo_215 (fr_a215_34) ?_
      refine fs_iload_n (k := 2) (p := 60) (by decide +kernel) rfl rfl ?_
      obtain ⟨v5, w6, h⟩ := fx_bd h
      refine fs_iaload (p := 61) (by decide +kernel) rfl w6 ?_
      refine fs_i2l (p := 62) (by decide +kernel) rfl ?_
      obtain ⟨t9, w10, h⟩ := fx_bd h
      refine fs_lastore (p := 63) (by decide +kernel) rfl w10 ?_
      refine fs_aload_n (k := 0) (p := 64) (by decide +kernel) rfl rfl ?_
      refine fs_iload_n (k := 1) (p := 65) (by decide +kernel) rfl rfl ?_
      refine fs_iconst (n := -1) (p := 66) (by decide +kernel) rfl kc_m1 ?_
      refine fs_iload_n (k := 2) (p := 67) (by decide +kernel) rfl rfl ?_
      refine fs_iconst (n := 0) (p := 68) (by decide +kernel) rfl kc_0 ?_
      obtain ⟨q13, w12, h⟩ := fx_bd h
      refine fs_callV (idx := 293) (mj := 157) (ci := 10) (na := 4) (mx := 8) (p := 71) (args := [.ref 215, .int x1, .int (-1 : Int32), .int x2, .int (0 : Int32)]) (rest := []) (al2 := [some (.ref 215), some (.int x1), some (.int (-1 : Int32)), some (.int x2), some (.int (0 : Int32)), none, none, none]) (by decide +kernel) rfl (by decide +kernel) fo_215 rfl rfl rfl rfl rfl rfl rfl (by omega) (fun d' hd' => fe_157 (by omega) w12) rfl ?_
      by_cases c15 : ¬ q13.1 = 0
      · rw [if_pos c15] at h
        refine fs_if_ne_t (off := 7) (t := 78) (by decide +kernel) (by decide +kernel) c15 ?_
        refine fs_iconst (n := 0) (p := 79) (by decide +kernel) rfl kc_0 ?_
        exact fe_191_79 hd ih _ _ _ _ _ _ _ h
      · rw [if_neg c15] at h
        refine fs_if_ne_f (off := 7) (t := 78) (p := 74) (by decide +kernel) (by decide +kernel) rfl c15 ?_
        refine fs_iconst (n := 1) (p := 75) (by decide +kernel) rfl kc_1 ?_
        refine fs_goto (off := 4) (p := 79) (by decide +kernel) (by decide +kernel) ?_
        exact fe_191_79 hd ih _ _ _ _ _ _ _ h
def fm_191_11 : Nat → Int32 → Int32 → fx_S → Option (fx_S)
  | 0, _, _, _ => none
  | n + 1, x1, x2, σ =>
    if (8 : Int32) ≤ x2 then (
      (fm_159 (8 : Int32) (9 : Int32) σ).bind fun q4 =>
      fm_191_44 100000 x1 (0 : Int32) q4) else (
      (fm_183 x2 σ).bind fun q6 =>
      (fx_st q6.2 239 x2 q6.1).bind fun t7 =>
      fm_191_11 n x1 (x2 + (1 : Int32)) t7)
theorem fe_191_11 {d : Nat} (hd : 31 ≤ d) : ∀ (n : Nat) (x1 : Int32) (x2 : Int32) (σ : fx_S) (q : fx_S), fm_191_11 n x1 x2 σ = some q → fx_E none 191 d 11 [some (.ref 215), some (.int x1), some (.int x2), none, none] [] σ none q := by
  intro n
  induction n with
  | zero =>
    intro x1 x2 σ q  h
    rw [fm_191_11] at h
    exact fx_no h
  | succ n ih =>
    intro x1 x2 σ q  h
    rw [fm_191_11] at h
    refine fs_iload_n (k := 2) (p := 12) (by decide +kernel) rfl rfl ?_
    refine fs_bipush (n := 8) (p := 14) (by decide +kernel) rfl kb_8 ?_
    by_cases c2 : (8 : Int32) ≤ x2
    · rw [if_pos c2] at h
      refine fs_icmp_ge_t (off := 20) (t := 34) (by decide +kernel) (by decide +kernel) c2 ?_
      refine fs_aload_n (k := 0) (p := 35) (by decide +kernel) rfl rfl ?_
      refine fs_bipush (n := 8) (p := 37) (by decide +kernel) rfl kb_8 ?_
      refine fs_bipush (n := 9) (p := 39) (by decide +kernel) rfl kb_9 ?_
      obtain ⟨q4, w3, h⟩ := fx_bd h
      refine fs_callV (idx := 276) (mj := 159) (ci := 10) (na := 2) (mx := 4) (p := 42) (args := [.ref 215, .int (8 : Int32), .int (9 : Int32)]) (rest := []) (al2 := [some (.ref 215), some (.int (8 : Int32)), some (.int (9 : Int32)), none]) (by decide +kernel) rfl (by decide +kernel) fo_215 rfl rfl rfl rfl rfl rfl rfl (by omega) (fun d' hd' => fe_159 (by omega) w3) rfl ?_
      refine fs_iconst (n := 0) (p := 43) (by decide +kernel) rfl kc_0 ?_
      refine fs_istore_n (k := 2) (p := 44) (M := 5) (al' := [some (.ref 215), some (.int x1), some (.int (0 : Int32)), none, none]) (by decide +kernel) rfl mx_191 rfl rfl ?_
      exact fe_191_44 hd 100000 _ _ _ _ _ _ h
    · rw [if_neg c2] at h
      refine fs_icmp_ge_f (off := 20) (t := 34) (p := 17) (by decide +kernel) (by decide +kernel) rfl c2 ?_
      refine fs_aload_n (k := 0) (p := 18) (by decide +kernel) rfl rfl ?_
      refine fs_gfr (idx := 82) (ci := 10) (j := 34) (p := 21) (by decide +kernel) rfl (by decide +kernel) fo_215 (fr_a215_34) ?_
      refine fs_iload_n (k := 2) (p := 22) (by decide +kernel) rfl rfl ?_
      refine fs_aload_n (k := 0) (p := 23) (by decide +kernel) rfl rfl ?_
      refine fs_iload_n (k := 2) (p := 24) (by decide +kernel) rfl rfl ?_
      obtain ⟨q6, w5, h⟩ := fx_bd h
      refine fs_callV (idx := 321) (mj := 183) (ci := 10) (na := 1) (mx := 4) (p := 27) (args := [.ref 215, .int x2]) (rest := [.int x2, .ref 239]) (al2 := [some (.ref 215), some (.int x2), none, none]) (by decide +kernel) rfl (by decide +kernel) fo_215 rfl rfl rfl rfl rfl rfl rfl (by omega) (fun d' hd' => fe_183 (by omega) w5) rfl ?_
      obtain ⟨t7, w8, h⟩ := fx_bd h
      refine fs_iastore (p := 28) (by decide +kernel) rfl w8 ?_
      refine fs_iinc (k := 2) (n := 1) (p := 31) (M := 5) (al' := [some (.ref 215), some (.int x1), some (.int (x2 + (1 : Int32))), none, none]) (by decide +kernel) rfl kc_1 mx_191 rfl rfl rfl ?_
      refine fs_goto (off := -20) (p := 11) (by decide +kernel) (by decide +kernel) ?_
      exact ih _ _ _ _ h
def fm_191 (x1 : Int32) (σ : fx_S) : Option (fx_S) :=
  (fm_181 x1 σ).bind fun q54 =>
  (fm_173 q54).bind fun q56 =>
  fm_191_11 100000 x1 (0 : Int32) q56
theorem fe_191 {d : Nat} (hd : 31 ≤ d) {x1 : Int32} {σ : fx_S} {q : fx_S} (h : fm_191 x1 σ = some q) : fx_E none 191 d 0 [some (.ref 215), some (.int x1), none, none, none] [] σ none q := by
  unfold fm_191 at h
  refine fs_aload_n (k := 0) (p := 1) (by decide +kernel) rfl rfl ?_
  refine fs_iload_n (k := 1) (p := 2) (by decide +kernel) rfl rfl ?_
  obtain ⟨q54, w53, h⟩ := fx_bd h
  refine fs_callV (idx := 312) (mj := 181) (ci := 10) (na := 1) (mx := 5) (p := 5) (args := [.ref 215, .int x1]) (rest := []) (al2 := [some (.ref 215), some (.int x1), none, none, none]) (by decide +kernel) rfl (by decide +kernel) fo_215 rfl rfl rfl rfl rfl rfl rfl (by omega) (fun d' hd' => fe_181 (by omega) w53) rfl ?_
  refine fs_aload_n (k := 0) (p := 6) (by decide +kernel) rfl rfl ?_
  obtain ⟨q56, w55, h⟩ := fx_bd h
  refine fs_callV (idx := 315) (mj := 173) (ci := 10) (na := 0) (mx := 2) (p := 9) (args := [.ref 215]) (rest := []) (al2 := [some (.ref 215), none]) (by decide +kernel) rfl (by decide +kernel) fo_215 rfl rfl rfl rfl rfl rfl rfl (by omega) (fun d' hd' => fe_173 (by omega) w55) rfl ?_
  refine fs_iconst (n := 0) (p := 10) (by decide +kernel) rfl kc_0 ?_
  refine fs_istore_n (k := 2) (p := 11) (M := 5) (al' := [some (.ref 215), some (.int x1), some (.int (0 : Int32)), none, none]) (by decide +kernel) rfl mx_191 rfl rfl ?_
  exact fe_191_11 hd 100000 _ _ _ _ h

/-! ZoneSharesModel.returned(II)I -/
theorem mx_192 : iv_mx 192 = 3 := by decide +kernel
theorem rt_192 : iv_rt 192 = some .int := by decide +kernel
def fm_192 (x1 : Int32) (x2 : Int32) (σ : fx_S) : Option (Int32 × fx_S) :=
  (fm_150 σ).bind fun q16 =>
  if (fx_b q16.1) = 0 then (
    some ((-1 : Int32), q16.2)) else (
    (fm_148 x1 q16.2).bind fun q19 =>
    if (fx_b q19.1) = 0 then (
      some ((-1 : Int32), q19.2)) else (
      (fm_130 (x2).toInt64 (0 : Int64) (8 : Int64) q19.2).bind fun q23 =>
      if ¬ (fx_b q23.1) = 0 then (
        (fm_191 x1 q23.2).bind fun q26 =>
        (fm_183 x2 q26).bind fun q28 =>
        some (q28.1, q28.2)) else (
        some ((-1 : Int32), q23.2))))
theorem fe_192 {d : Nat} (hd : 32 ≤ d) {x1 : Int32} {x2 : Int32} {σ : fx_S} {q : Int32 × fx_S} (h : fm_192 x1 x2 σ = some q) : fx_E none 192 d 0 [some (.ref 215), some (.int x1), some (.int x2)] [] σ (some (.int q.1)) q.2 := by
  unfold fm_192 at h
  refine fs_aload_n (k := 0) (p := 1) (by decide +kernel) rfl rfl ?_
  obtain ⟨q16, w15, h⟩ := fx_bd h
  refine fs_callV (idx := 303) (mj := 150) (ci := 10) (na := 0) (mx := 1) (p := 4) (args := [.ref 215]) (rest := []) (al2 := [some (.ref 215)]) (by decide +kernel) rfl (by decide +kernel) fo_215 rfl rfl rfl rfl rfl rfl rfl (by omega) (fun d' hd' => fe_150 (by omega) w15) rfl ?_
  by_cases c17 : (fx_b q16.1) = 0
  · rw [if_pos c17] at h
    refine fs_if_eq_t (off := 22) (t := 26) (by decide +kernel) (by decide +kernel) c17 ?_
    refine fs_iconst (n := -1) (p := 27) (by decide +kernel) rfl kc_m1 ?_
    have h := Option.some.inj h
    subst h
    exact fs_iret (by decide +kernel) rt_192
  · rw [if_neg c17] at h
    refine fs_if_eq_f (off := 22) (t := 26) (p := 7) (by decide +kernel) (by decide +kernel) rfl c17 ?_
    refine fs_iload_n (k := 1) (p := 8) (by decide +kernel) rfl rfl ?_
    obtain ⟨q19, w18, h⟩ := fx_bd h
    refine fs_callS (idx := 190) (mj := 148) (na := 1) (mx := 1) (p := 11) (args := [.int x1]) (rest := []) (al2 := [some (.int x1)]) (by decide +kernel) rfl (by decide +kernel) rfl rfl rfl rfl rfl rfl rfl (by omega) (fun d' hd' => fe_148 (by omega) w18) rfl ?_
    by_cases c20 : (fx_b q19.1) = 0
    · rw [if_pos c20] at h
      refine fs_if_eq_t (off := 15) (t := 26) (by decide +kernel) (by decide +kernel) c20 ?_
      refine fs_iconst (n := -1) (p := 27) (by decide +kernel) rfl kc_m1 ?_
      have h := Option.some.inj h
      subst h
      exact fs_iret (by decide +kernel) rt_192
    · rw [if_neg c20] at h
      refine fs_if_eq_f (off := 15) (t := 26) (p := 14) (by decide +kernel) (by decide +kernel) rfl c20 ?_
      refine fs_iload_n (k := 2) (p := 15) (by decide +kernel) rfl rfl ?_
      refine fs_i2l (p := 16) (by decide +kernel) rfl ?_
      refine fs_lconst (n := 0) (p := 17) (by decide +kernel) rfl kl_0 ?_
      refine fs_ldc2 (idx := 310) (p := 20) (x := 8) (by decide +kernel) rfl (by decide +kernel) ?_
      obtain ⟨q23, w22, h⟩ := fx_bd h
      refine fs_callS (idx := 128) (mj := 130) (na := 3) (mx := 6) (p := 23) (args := [.long (x2).toInt64, .long (0 : Int64), .long (8 : Int64)]) (rest := []) (al2 := [some (.long (x2).toInt64), none, some (.long (0 : Int64)), none, some (.long (8 : Int64)), none]) (by decide +kernel) rfl (by decide +kernel) rfl rfl rfl rfl rfl rfl rfl (by omega) (fun d' hd' => fe_130 (by omega) w22) rfl ?_
      by_cases c24 : ¬ (fx_b q23.1) = 0
      · rw [if_pos c24] at h
        refine fs_if_ne_t (off := 5) (t := 28) (by decide +kernel) (by decide +kernel) c24 ?_
        refine fs_aload_n (k := 0) (p := 29) (by decide +kernel) rfl rfl ?_
        refine fs_iload_n (k := 1) (p := 30) (by decide +kernel) rfl rfl ?_
        obtain ⟨q26, w25, h⟩ := fx_bd h
        refine fs_callV (idx := 336) (mj := 191) (ci := 10) (na := 1) (mx := 5) (p := 33) (args := [.ref 215, .int x1]) (rest := []) (al2 := [some (.ref 215), some (.int x1), none, none, none]) (by decide +kernel) rfl (by decide +kernel) fo_215 rfl rfl rfl rfl rfl rfl rfl (by omega) (fun d' hd' => fe_191 (by omega) w25) rfl ?_
        refine fs_aload_n (k := 0) (p := 34) (by decide +kernel) rfl rfl ?_
        refine fs_iload_n (k := 2) (p := 35) (by decide +kernel) rfl rfl ?_
        obtain ⟨q28, w27, h⟩ := fx_bd h
        refine fs_callV (idx := 321) (mj := 183) (ci := 10) (na := 1) (mx := 4) (p := 38) (args := [.ref 215, .int x2]) (rest := []) (al2 := [some (.ref 215), some (.int x2), none, none]) (by decide +kernel) rfl (by decide +kernel) fo_215 rfl rfl rfl rfl rfl rfl rfl (by omega) (fun d' hd' => fe_183 (by omega) w27) rfl ?_
        have h := Option.some.inj h
        subst h
        exact fs_iret (by decide +kernel) rt_192
      · rw [if_neg c24] at h
        refine fs_if_ne_f (off := 5) (t := 28) (p := 26) (by decide +kernel) (by decide +kernel) rfl c24 ?_
        refine fs_iconst (n := -1) (p := 27) (by decide +kernel) rfl kc_m1 ?_
        have h := Option.some.inj h
        subst h
        exact fs_iret (by decide +kernel) rt_192

/-! ZoneSharesModel.astray(I)I -/
theorem mx_193 : iv_mx 193 = 4 := by decide +kernel
theorem rt_193 : iv_rt 193 = some .int := by decide +kernel
def fm_193_55 : Nat → Int32 → Int32 → fx_S → Option (Int32 × fx_S)
  | 0, _, _, _ => none
  | n + 1, x2, x3, σ =>
    if (8 : Int32) ≤ x3 then (
      some (x2, σ)) else (
      (fx_ld σ 236 x3).bind fun v3 =>
      (fx_ld σ 239 x3).bind fun v6 =>
      fm_193_55 n (x2 + (if 0 ≤ (v3 - v6) then (v3 - v6) else 0 - (v3 - v6))) (x3 + (1 : Int32)) σ)
theorem fe_193_55 {d : Nat} (hd : 32 ≤ d) : ∀ (n : Nat) (x2 : Int32) (x3 : Int32) (o1 : Option Value) (σ : fx_S) (q : Int32 × fx_S), fm_193_55 n x2 x3 σ = some q → fx_E none 193 d 55 [some (.ref 215), o1, some (.int x2), some (.int x3)] [] σ (some (.int q.1)) q.2 := by
  intro n
  induction n with
  | zero =>
    intro x2 x3 o1 σ q  h
    rw [fm_193_55] at h
    exact fx_no h
  | succ n ih =>
    intro x2 x3 o1 σ q  h
    rw [fm_193_55] at h
    refine fs_iload_n (k := 3) (p := 56) (by decide +kernel) rfl rfl ?_
    refine fs_bipush (n := 8) (p := 58) (by decide +kernel) rfl kb_8 ?_
    by_cases c2 : (8 : Int32) ≤ x3
    · rw [if_pos c2] at h
      refine fs_icmp_ge_t (off := 28) (t := 86) (by decide +kernel) (by decide +kernel) c2 ?_
      refine fs_iload_n (k := 2) (p := 87) (by decide +kernel) rfl rfl ?_
      have h := Option.some.inj h
      subst h
      exact fs_iret (by decide +kernel) rt_193
    · rw [if_neg c2] at h
      refine fs_icmp_ge_f (off := 28) (t := 86) (p := 61) (by decide +kernel) (by decide +kernel) rfl c2 ?_
      refine fs_iload_n (k := 2) (p := 62) (by decide +kernel) rfl rfl ?_
      refine fs_aload_n (k := 0) (p := 63) (by decide +kernel) rfl rfl ?_
      refine fs_gfr (idx := 73) (ci := 10) (j := 31) (p := 66) (by decide +kernel) rfl (by decide +kernel) fo_215 (fr_a215_31) ?_
      refine fs_iload_n (k := 3) (p := 67) (by decide +kernel) rfl rfl ?_
      obtain ⟨v3, w4, h⟩ := fx_bd h
      refine fs_iaload (p := 68) (by decide +kernel) rfl w4 ?_
      refine fs_aload_n (k := 0) (p := 69) (by decide +kernel) rfl rfl ?_
      refine fs_gfr (idx := 82) (ci := 10) (j := 34) (p := 72) (by decide +kernel) rfl (by decide +kernel) fo_215 (fr_a215_34) ?_
      refine fs_iload_n (k := 3) (p := 73) (by decide +kernel) rfl rfl ?_
      obtain ⟨v6, w7, h⟩ := fx_bd h
      refine fs_iaload (p := 74) (by decide +kernel) rfl w7 ?_
      refine fs_isub (p := 75) (by decide +kernel) rfl ?_
      refine fs_abi (idx := 339) (p := 78) (by decide +kernel) rfl (by decide +kernel) rfl ?_
      refine fs_iadd (p := 79) (by decide +kernel) rfl ?_
      refine fs_istore_n (k := 2) (p := 80) (M := 4) (al' := [some (.ref 215), (fx_kl o1), some (.int (x2 + (if 0 ≤ (v3 - v6) then (v3 - v6) else 0 - (v3 - v6)))), some (.int x3)]) (by decide +kernel) rfl mx_193 rfl rfl ?_
      refine fs_iinc (k := 3) (n := 1) (p := 83) (M := 4) (al' := [some (.ref 215), (fx_kl o1), some (.int (x2 + (if 0 ≤ (v3 - v6) then (v3 - v6) else 0 - (v3 - v6)))), some (.int (x3 + (1 : Int32)))]) (by decide +kernel) rfl kc_1 mx_193 rfl rfl rfl ?_
      refine fs_goto (off := -28) (p := 55) (by decide +kernel) (by decide +kernel) ?_
      exact ih _ _ _ _ _ h
def fm_193_23 : Nat → Int32 → Int32 → fx_S → Option (Int32 × fx_S)
  | 0, _, _, _ => none
  | n + 1, x1, x2, σ =>
    if (8 : Int32) ≤ x2 then (
      (fm_177 x1 σ).bind fun q4 =>
      fm_193_55 100000 (0 : Int32) (0 : Int32) q4) else (
      (fm_183 x2 σ).bind fun q6 =>
      (fx_st q6.2 239 x2 q6.1).bind fun t7 =>
      fm_193_23 n x1 (x2 + (1 : Int32)) t7)
theorem fe_193_23 {d : Nat} (hd : 32 ≤ d) : ∀ (n : Nat) (x1 : Int32) (x2 : Int32) (σ : fx_S) (q : Int32 × fx_S), fm_193_23 n x1 x2 σ = some q → fx_E none 193 d 23 [some (.ref 215), some (.int x1), some (.int x2), none] [] σ (some (.int q.1)) q.2 := by
  intro n
  induction n with
  | zero =>
    intro x1 x2 σ q  h
    rw [fm_193_23] at h
    exact fx_no h
  | succ n ih =>
    intro x1 x2 σ q  h
    rw [fm_193_23] at h
    refine fs_iload_n (k := 2) (p := 24) (by decide +kernel) rfl rfl ?_
    refine fs_bipush (n := 8) (p := 26) (by decide +kernel) rfl kb_8 ?_
    by_cases c2 : (8 : Int32) ≤ x2
    · rw [if_pos c2] at h
      refine fs_icmp_ge_t (off := 20) (t := 46) (by decide +kernel) (by decide +kernel) c2 ?_
      refine fs_aload_n (k := 0) (p := 47) (by decide +kernel) rfl rfl ?_
      refine fs_iload_n (k := 1) (p := 48) (by decide +kernel) rfl rfl ?_
      obtain ⟨q4, w3, h⟩ := fx_bd h
      refine fs_callV (idx := 290) (mj := 177) (ci := 10) (na := 1) (mx := 3) (p := 51) (args := [.ref 215, .int x1]) (rest := []) (al2 := [some (.ref 215), some (.int x1), none]) (by decide +kernel) rfl (by decide +kernel) fo_215 rfl rfl rfl rfl rfl rfl rfl (by omega) (fun d' hd' => fe_177 (by omega) w3) rfl ?_
      refine fs_iconst (n := 0) (p := 52) (by decide +kernel) rfl kc_0 ?_
      refine fs_istore_n (k := 2) (p := 53) (M := 4) (al' := [some (.ref 215), some (.int x1), some (.int (0 : Int32)), none]) (by decide +kernel) rfl mx_193 rfl rfl ?_
      refine fs_iconst (n := 0) (p := 54) (by decide +kernel) rfl kc_0 ?_
      refine fs_istore_n (k := 3) (p := 55) (M := 4) (al' := [some (.ref 215), some (.int x1), some (.int (0 : Int32)), some (.int (0 : Int32))]) (by decide +kernel) rfl mx_193 rfl rfl ?_
      exact fe_193_55 hd 100000 _ _ _ _ _ h
    · rw [if_neg c2] at h
      refine fs_icmp_ge_f (off := 20) (t := 46) (p := 29) (by decide +kernel) (by decide +kernel) rfl c2 ?_
      refine fs_aload_n (k := 0) (p := 30) (by decide +kernel) rfl rfl ?_
      refine fs_gfr (idx := 82) (ci := 10) (j := 34) (p := 33) (by decide +kernel) rfl (by decide +kernel) fo_215 (fr_a215_34) ?_
      refine fs_iload_n (k := 2) (p := 34) (by decide +kernel) rfl rfl ?_
      refine fs_aload_n (k := 0) (p := 35) (by decide +kernel) rfl rfl ?_
      refine fs_iload_n (k := 2) (p := 36) (by decide +kernel) rfl rfl ?_
      obtain ⟨q6, w5, h⟩ := fx_bd h
      refine fs_callV (idx := 321) (mj := 183) (ci := 10) (na := 1) (mx := 4) (p := 39) (args := [.ref 215, .int x2]) (rest := [.int x2, .ref 239]) (al2 := [some (.ref 215), some (.int x2), none, none]) (by decide +kernel) rfl (by decide +kernel) fo_215 rfl rfl rfl rfl rfl rfl rfl (by omega) (fun d' hd' => fe_183 (by omega) w5) rfl ?_
      obtain ⟨t7, w8, h⟩ := fx_bd h
      refine fs_iastore (p := 40) (by decide +kernel) rfl w8 ?_
      refine fs_iinc (k := 2) (n := 1) (p := 43) (M := 4) (al' := [some (.ref 215), some (.int x1), some (.int (x2 + (1 : Int32))), none]) (by decide +kernel) rfl kc_1 mx_193 rfl rfl rfl ?_
      refine fs_goto (off := -20) (p := 23) (by decide +kernel) (by decide +kernel) ?_
      exact ih _ _ _ _ h
def fm_193 (x1 : Int32) (σ : fx_S) : Option (Int32 × fx_S) :=
  (fm_150 σ).bind fun q28 =>
  if (fx_b q28.1) = 0 then (
    some ((-1 : Int32), q28.2)) else (
    (fm_148 x1 q28.2).bind fun q31 =>
    if ¬ (fx_b q31.1) = 0 then (
      (fm_191 x1 q31.2).bind fun q34 =>
      fm_193_23 100000 x1 (0 : Int32) q34) else (
      some ((-1 : Int32), q31.2)))
theorem fe_193 {d : Nat} (hd : 32 ≤ d) {x1 : Int32} {σ : fx_S} {q : Int32 × fx_S} (h : fm_193 x1 σ = some q) : fx_E none 193 d 0 [some (.ref 215), some (.int x1), none, none] [] σ (some (.int q.1)) q.2 := by
  unfold fm_193 at h
  refine fs_aload_n (k := 0) (p := 1) (by decide +kernel) rfl rfl ?_
  obtain ⟨q28, w27, h⟩ := fx_bd h
  refine fs_callV (idx := 303) (mj := 150) (ci := 10) (na := 0) (mx := 1) (p := 4) (args := [.ref 215]) (rest := []) (al2 := [some (.ref 215)]) (by decide +kernel) rfl (by decide +kernel) fo_215 rfl rfl rfl rfl rfl rfl rfl (by omega) (fun d' hd' => fe_150 (by omega) w27) rfl ?_
  by_cases c29 : (fx_b q28.1) = 0
  · rw [if_pos c29] at h
    refine fs_if_eq_t (off := 10) (t := 14) (by decide +kernel) (by decide +kernel) c29 ?_
    refine fs_iconst (n := -1) (p := 15) (by decide +kernel) rfl kc_m1 ?_
    have h := Option.some.inj h
    subst h
    exact fs_iret (by decide +kernel) rt_193
  · rw [if_neg c29] at h
    refine fs_if_eq_f (off := 10) (t := 14) (p := 7) (by decide +kernel) (by decide +kernel) rfl c29 ?_
    refine fs_iload_n (k := 1) (p := 8) (by decide +kernel) rfl rfl ?_
    obtain ⟨q31, w30, h⟩ := fx_bd h
    refine fs_callS (idx := 190) (mj := 148) (na := 1) (mx := 1) (p := 11) (args := [.int x1]) (rest := []) (al2 := [some (.int x1)]) (by decide +kernel) rfl (by decide +kernel) rfl rfl rfl rfl rfl rfl rfl (by omega) (fun d' hd' => fe_148 (by omega) w30) rfl ?_
    by_cases c32 : ¬ (fx_b q31.1) = 0
    · rw [if_pos c32] at h
      refine fs_if_ne_t (off := 5) (t := 16) (by decide +kernel) (by decide +kernel) c32 ?_
      refine fs_aload_n (k := 0) (p := 17) (by decide +kernel) rfl rfl ?_
      refine fs_iload_n (k := 1) (p := 18) (by decide +kernel) rfl rfl ?_
      obtain ⟨q34, w33, h⟩ := fx_bd h
      refine fs_callV (idx := 336) (mj := 191) (ci := 10) (na := 1) (mx := 5) (p := 21) (args := [.ref 215, .int x1]) (rest := []) (al2 := [some (.ref 215), some (.int x1), none, none, none]) (by decide +kernel) rfl (by decide +kernel) fo_215 rfl rfl rfl rfl rfl rfl rfl (by omega) (fun d' hd' => fe_191 (by omega) w33) rfl ?_
      refine fs_iconst (n := 0) (p := 22) (by decide +kernel) rfl kc_0 ?_
      refine fs_istore_n (k := 2) (p := 23) (M := 4) (al' := [some (.ref 215), some (.int x1), some (.int (0 : Int32)), none]) (by decide +kernel) rfl mx_193 rfl rfl ?_
      exact fe_193_23 hd 100000 _ _ _ _ h
    · rw [if_neg c32] at h
      refine fs_if_ne_f (off := 5) (t := 16) (p := 14) (by decide +kernel) (by decide +kernel) rfl c32 ?_
      refine fs_iconst (n := -1) (p := 15) (by decide +kernel) rfl kc_m1 ?_
      have h := Option.some.inj h
      subst h
      exact fs_iret (by decide +kernel) rt_193

/-! ZoneSharesModel.fit(I)I -/
theorem mx_212 : iv_mx 212 = 4 := by decide +kernel
theorem rt_212 : iv_rt 212 = some .int := by decide +kernel
def fm_212_102 : Nat → Int32 → Int32 → Int32 → fx_S → Option (Int32 × fx_S)
  | 0, _, _, _, _ => none
  | n + 1, x1, x2, x3, σ =>
    if (4 : Int32) ≤ x3 then (
      some (x2, σ)) else (
      (fx_ld σ 244 x3).bind fun v3 =>
      (fx_st σ 216 (((32 : Int32) + ((4 : Int32) * x1)) + x3) v3).bind fun t6 =>
      fm_212_102 n x1 x2 (x3 + (1 : Int32)) t6)
theorem fe_212_102 {d : Nat} (hd : 9 ≤ d) : ∀ (n : Nat) (x1 : Int32) (x2 : Int32) (x3 : Int32) (σ : fx_S) (q : Int32 × fx_S), fm_212_102 n x1 x2 x3 σ = some q → fx_E none 212 d 102 [some (.ref 215), some (.int x1), some (.int x2), some (.int x3)] [] σ (some (.int q.1)) q.2 := by
  intro n
  induction n with
  | zero =>
    intro x1 x2 x3 σ q  h
    rw [fm_212_102] at h
    exact fx_no h
  | succ n ih =>
    intro x1 x2 x3 σ q  h
    rw [fm_212_102] at h
    refine fs_iload_n (k := 3) (p := 103) (by decide +kernel) rfl rfl ?_
    refine fs_iconst (n := 4) (p := 104) (by decide +kernel) rfl kc_4 ?_
    by_cases c2 : (4 : Int32) ≤ x3
    · rw [if_pos c2] at h
      refine fs_icmp_ge_t (off := 28) (t := 132) (by decide +kernel) (by decide +kernel) c2 ?_
      refine fs_iload_n (k := 2) (p := 133) (by decide +kernel) rfl rfl ?_
      have h := Option.some.inj h
      subst h
      exact fs_iret (by decide +kernel) rt_212
    · rw [if_neg c2] at h
      refine fs_icmp_ge_f (off := 28) (t := 132) (p := 107) (by decide +kernel) (by decide +kernel) rfl c2 ?_
      refine fs_aload_n (k := 0) (p := 108) (by decide +kernel) rfl rfl ?_
      refine fs_gfr (idx := 9) (ci := 10) (j := 0) (p := 111) (by decide +kernel) rfl (by decide +kernel) fo_215 (fr_a215_0) ?_
      refine fs_bipush (n := 32) (p := 113) (by decide +kernel) rfl kb_32 ?_
      refine fs_iconst (n := 4) (p := 114) (by decide +kernel) rfl kc_4 ?_
      refine fs_iload_n (k := 1) (p := 115) (by decide +kernel) rfl rfl ?_
      refine fs_imul (p := 116) (by decide +kernel) rfl ?_
      refine fs_iadd (p := 117) (by decide +kernel) rfl ?_
      refine fs_iload_n (k := 3) (p := 118) (by decide +kernel) rfl rfl ?_
      refine fs_iadd (p := 119) (by decide +kernel) rfl ?_
      refine fs_aload_n (k := 0) (p := 120) (by decide +kernel) rfl rfl ?_
      refine fs_gfr (idx := 97) (ci := 10) (j := 39) (p := 123) (by decide +kernel) rfl (by decide +kernel) fo_215 (fr_a215_39) ?_
      refine fs_iload_n (k := 3) (p := 124) (by decide +kernel) rfl rfl ?_
      obtain ⟨v3, w4, h⟩ := fx_bd h
      refine fs_iaload (p := 125) (by decide +kernel) rfl w4 ?_
      obtain ⟨t6, w7, h⟩ := fx_bd h
      refine fs_iastore (p := 126) (by decide +kernel) rfl w7 ?_
      refine fs_iinc (k := 3) (n := 1) (p := 129) (M := 4) (al' := [some (.ref 215), some (.int x1), some (.int x2), some (.int (x3 + (1 : Int32)))]) (by decide +kernel) rfl kc_1 mx_212 rfl rfl rfl ?_
      refine fs_goto (off := -27) (p := 102) (by decide +kernel) (by decide +kernel) ?_
      exact ih _ _ _ _ _ h
def fm_212_78 (k_45 : Int32 → Int32 → Int32 → fx_S → Option (Int32 × fx_S)) (x1 : Int32) (x3 : Int32) (s0 : Int32) (s1 : Int32) (σ : fx_S) : Option (Int32 × fx_S) :=
  (fm_131 s1 σ).bind fun q2 =>
  k_45 x1 (s0 + q2.1) (x3 + (1 : Int32)) q2.2
theorem fe_212_78 {d : Nat} (hd : 9 ≤ d) {k_45 : Int32 → Int32 → Int32 → fx_S → Option (Int32 × fx_S)} (hk_45 : ∀ (x1 : Int32) (x2 : Int32) (x3 : Int32) (σ : fx_S) (q : Int32 × fx_S), k_45 x1 x2 x3 σ = some q → fx_E none 212 d 45 [some (.ref 215), some (.int x1), some (.int x2), some (.int x3)] [] σ (some (.int q.1)) q.2) (x1 : Int32) (x3 : Int32) (s0 : Int32) (s1 : Int32) (o2 : Option Value) (σ : fx_S) (q : Int32 × fx_S) (h : fm_212_78 k_45  x1 x3 s0 s1 σ = some q) : fx_E none 212 d 78 [some (.ref 215), some (.int x1), o2, some (.int x3)] [.int s1, .int s0] σ (some (.int q.1)) q.2 := by
  unfold fm_212_78 at h
  obtain ⟨q2, w1, h⟩ := fx_bd h
  refine fs_callS (idx := 186) (mj := 131) (na := 1) (mx := 1) (p := 81) (args := [.int s1]) (rest := [.int s0]) (al2 := [some (.int s1)]) (by decide +kernel) rfl (by decide +kernel) rfl rfl rfl rfl rfl rfl rfl (by omega) (fun d' hd' => fe_131 (by omega) w1) rfl ?_
  refine fs_iadd (p := 82) (by decide +kernel) rfl ?_
  refine fs_istore_n (k := 2) (p := 83) (M := 4) (al' := [some (.ref 215), some (.int x1), some (.int (s0 + q2.1)), some (.int x3)]) (by decide +kernel) rfl mx_212 rfl rfl ?_
  refine fs_iinc (k := 3) (n := 1) (p := 86) (M := 4) (al' := [some (.ref 215), some (.int x1), some (.int (s0 + q2.1)), some (.int (x3 + (1 : Int32)))]) (by decide +kernel) rfl kc_1 mx_212 rfl rfl rfl ?_
  refine fs_goto (off := -41) (p := 45) (by decide +kernel) (by decide +kernel) ?_
  exact hk_45 _ _ _ _ _ h
def fm_212_45 : Nat → Int32 → Int32 → Int32 → fx_S → Option (Int32 × fx_S)
  | 0, _, _, _, _ => none
  | n + 1, x1, x2, x3, σ =>
    if (4 : Int32) ≤ x3 then (
      if ¬ x2 = 0 then (
        (fm_132 σ).bind fun q6 =>
        fm_212_102 100000 x1 x2 (0 : Int32) q6) else (
        some ((-2 : Int32), σ))) else (
      (fx_ld σ 244 x3).bind fun v7 =>
      (fx_ld σ 216 (((32 : Int32) + ((4 : Int32) * x1)) + x3)).bind fun v10 =>
      if v7 = v10 then (
        fm_212_78 (fm_212_45 n) x1 x3 x2 (0 : Int32) σ) else (
        fm_212_78 (fm_212_45 n) x1 x3 x2 (1 : Int32) σ))
theorem fe_212_45 {d : Nat} (hd : 9 ≤ d) : ∀ (n : Nat) (x1 : Int32) (x2 : Int32) (x3 : Int32) (σ : fx_S) (q : Int32 × fx_S), fm_212_45 n x1 x2 x3 σ = some q → fx_E none 212 d 45 [some (.ref 215), some (.int x1), some (.int x2), some (.int x3)] [] σ (some (.int q.1)) q.2 := by
  intro n
  induction n with
  | zero =>
    intro x1 x2 x3 σ q  h
    rw [fm_212_45] at h
    exact fx_no h
  | succ n ih =>
    intro x1 x2 x3 σ q  h
    rw [fm_212_45] at h
    refine fs_iload_n (k := 3) (p := 46) (by decide +kernel) rfl rfl ?_
    refine fs_iconst (n := 4) (p := 47) (by decide +kernel) rfl kc_4 ?_
    by_cases c2 : (4 : Int32) ≤ x3
    · rw [if_pos c2] at h
      refine fs_icmp_ge_t (off := 42) (t := 89) (by decide +kernel) (by decide +kernel) c2 ?_
      refine fs_iload_n (k := 2) (p := 90) (by decide +kernel) rfl rfl ?_
      by_cases c4 : ¬ x2 = 0
      · rw [if_pos c4] at h
        refine fs_if_ne_t (off := 6) (t := 96) (by decide +kernel) (by decide +kernel) c4 ?_
        refine fs_aload_n (k := 0) (p := 97) (by decide +kernel) rfl rfl ?_
        obtain ⟨q6, w5, h⟩ := fx_bd h
        refine fs_callV (idx := 170) (mj := 132) (ci := 10) (na := 0) (mx := 2) (p := 100) (args := [.ref 215]) (rest := []) (al2 := [some (.ref 215), none]) (by decide +kernel) rfl (by decide +kernel) fo_215 rfl rfl rfl rfl rfl rfl rfl (by omega) (fun d' hd' => fe_132 (by omega) w5) rfl ?_
        refine fs_iconst (n := 0) (p := 101) (by decide +kernel) rfl kc_0 ?_
        refine fs_istore_n (k := 3) (p := 102) (M := 4) (al' := [some (.ref 215), some (.int x1), some (.int x2), some (.int (0 : Int32))]) (by decide +kernel) rfl mx_212 rfl rfl ?_
        exact fe_212_102 hd 100000 _ _ _ _ _ h
      · rw [if_neg c4] at h
        refine fs_if_ne_f (off := 6) (t := 96) (p := 93) (by decide +kernel) (by decide +kernel) rfl c4 ?_
        refine fs_bipush (n := -2) (p := 95) (by decide +kernel) rfl kb_m2 ?_
        have h := Option.some.inj h
        subst h
        exact fs_iret (by decide +kernel) rt_212
    · rw [if_neg c2] at h
      refine fs_icmp_ge_f (off := 42) (t := 89) (p := 50) (by decide +kernel) (by decide +kernel) rfl c2 ?_
      refine fs_iload_n (k := 2) (p := 51) (by decide +kernel) rfl rfl ?_
      refine fs_aload_n (k := 0) (p := 52) (by decide +kernel) rfl rfl ?_
      refine fs_gfr (idx := 97) (ci := 10) (j := 39) (p := 55) (by decide +kernel) rfl (by decide +kernel) fo_215 (fr_a215_39) ?_
      refine fs_iload_n (k := 3) (p := 56) (by decide +kernel) rfl rfl ?_
      obtain ⟨v7, w8, h⟩ := fx_bd h
      refine fs_iaload (p := 57) (by decide +kernel) rfl w8 ?_
      refine fs_aload_n (k := 0) (p := 58) (by decide +kernel) rfl rfl ?_
      refine fs_gfr (idx := 9) (ci := 10) (j := 0) (p := 61) (by decide +kernel) rfl (by decide +kernel) fo_215 (fr_a215_0) ?_
      refine fs_bipush (n := 32) (p := 63) (by decide +kernel) rfl kb_32 ?_
      refine fs_iconst (n := 4) (p := 64) (by decide +kernel) rfl kc_4 ?_
      refine fs_iload_n (k := 1) (p := 65) (by decide +kernel) rfl rfl ?_
      refine fs_imul (p := 66) (by decide +kernel) rfl ?_
      refine fs_iadd (p := 67) (by decide +kernel) rfl ?_
      refine fs_iload_n (k := 3) (p := 68) (by decide +kernel) rfl rfl ?_
      refine fs_iadd (p := 69) (by decide +kernel) rfl ?_
      obtain ⟨v10, w11, h⟩ := fx_bd h
      refine fs_iaload (p := 70) (by decide +kernel) rfl w11 ?_
      by_cases c15 : v7 = v10
      · rw [if_pos c15] at h
        refine fs_icmp_eq_t (off := 7) (t := 77) (by decide +kernel) (by decide +kernel) c15 ?_
        refine fs_iconst (n := 0) (p := 78) (by decide +kernel) rfl kc_0 ?_
        exact fe_212_78 hd ih _ _ _ _ _ _ _ h
      · rw [if_neg c15] at h
        refine fs_icmp_eq_f (off := 7) (t := 77) (p := 73) (by decide +kernel) (by decide +kernel) rfl c15 ?_
        refine fs_iconst (n := 1) (p := 74) (by decide +kernel) rfl kc_1 ?_
        refine fs_goto (off := 4) (p := 78) (by decide +kernel) (by decide +kernel) ?_
        exact fe_212_78 hd ih _ _ _ _ _ _ _ h
def fm_212 (x1 : Int32) (σ : fx_S) : Option (Int32 × fx_S) :=
  (fm_150 σ).bind fun q39 =>
  if (fx_b q39.1) = 0 then (
    some ((-1 : Int32), q39.2)) else (
    (fm_148 x1 q39.2).bind fun q42 =>
    if ¬ (fx_b q42.1) = 0 then (
      (fm_205 x1 q42.2).bind fun q45 =>
      if ¬ (q45.1 215 42) = 0 then (
        (fm_211 x1 (0 : Int32) (fx_w1 q45 215 43 (0 : Int32))).bind fun q49 =>
        fm_212_45 100000 x1 (0 : Int32) (0 : Int32) q49) else (
        some ((-1 : Int32), q45))) else (
      some ((-1 : Int32), q42.2)))
theorem fe_212 {d : Nat} (hd : 9 ≤ d) {x1 : Int32} {σ : fx_S} {q : Int32 × fx_S} (h : fm_212 x1 σ = some q) : fx_E none 212 d 0 [some (.ref 215), some (.int x1), none, none] [] σ (some (.int q.1)) q.2 := by
  unfold fm_212 at h
  refine fs_aload_n (k := 0) (p := 1) (by decide +kernel) rfl rfl ?_
  obtain ⟨q39, w38, h⟩ := fx_bd h
  refine fs_callV (idx := 303) (mj := 150) (ci := 10) (na := 0) (mx := 1) (p := 4) (args := [.ref 215]) (rest := []) (al2 := [some (.ref 215)]) (by decide +kernel) rfl (by decide +kernel) fo_215 rfl rfl rfl rfl rfl rfl rfl (by omega) (fun d' hd' => fe_150 (by omega) w38) rfl ?_
  by_cases c40 : (fx_b q39.1) = 0
  · rw [if_pos c40] at h
    refine fs_if_eq_t (off := 10) (t := 14) (by decide +kernel) (by decide +kernel) c40 ?_
    refine fs_iconst (n := -1) (p := 15) (by decide +kernel) rfl kc_m1 ?_
    have h := Option.some.inj h
    subst h
    exact fs_iret (by decide +kernel) rt_212
  · rw [if_neg c40] at h
    refine fs_if_eq_f (off := 10) (t := 14) (p := 7) (by decide +kernel) (by decide +kernel) rfl c40 ?_
    refine fs_iload_n (k := 1) (p := 8) (by decide +kernel) rfl rfl ?_
    obtain ⟨q42, w41, h⟩ := fx_bd h
    refine fs_callS (idx := 190) (mj := 148) (na := 1) (mx := 1) (p := 11) (args := [.int x1]) (rest := []) (al2 := [some (.int x1)]) (by decide +kernel) rfl (by decide +kernel) rfl rfl rfl rfl rfl rfl rfl (by omega) (fun d' hd' => fe_148 (by omega) w41) rfl ?_
    by_cases c43 : ¬ (fx_b q42.1) = 0
    · rw [if_pos c43] at h
      refine fs_if_ne_t (off := 5) (t := 16) (by decide +kernel) (by decide +kernel) c43 ?_
      refine fs_aload_n (k := 0) (p := 17) (by decide +kernel) rfl rfl ?_
      refine fs_iload_n (k := 1) (p := 18) (by decide +kernel) rfl rfl ?_
      obtain ⟨q45, w44, h⟩ := fx_bd h
      refine fs_callV (idx := 400) (mj := 205) (ci := 10) (na := 1) (mx := 3) (p := 21) (args := [.ref 215, .int x1]) (rest := []) (al2 := [some (.ref 215), some (.int x1), none]) (by decide +kernel) rfl (by decide +kernel) fo_215 rfl rfl rfl rfl rfl rfl rfl (by omega) (fun d' hd' => fe_205 (by omega) w44) rfl ?_
      refine fs_aload_n (k := 0) (p := 22) (by decide +kernel) rfl rfl ?_
      refine fs_gfi (idx := 382) (ci := 10) (j := 42) (p := 25) (by decide +kernel) rfl (by decide +kernel) fo_215 ?_
      by_cases c47 : ¬ (q45.1 215 42) = 0
      · rw [if_pos c47] at h
        refine fs_if_ne_t (off := 5) (t := 30) (by decide +kernel) (by decide +kernel) c47 ?_
        refine fs_aload_n (k := 0) (p := 31) (by decide +kernel) rfl rfl ?_
        refine fs_iconst (n := 0) (p := 32) (by decide +kernel) rfl kc_0 ?_
        refine fs_pfi (idx := 412) (ci := 10) (j := 43) (p := 35) (by decide +kernel) rfl (by decide +kernel) (by decide +kernel) fo_215 (fx_okd (by decide) (by decide +kernel)) ?_
        refine fs_aload_n (k := 0) (p := 36) (by decide +kernel) rfl rfl ?_
        refine fs_iload_n (k := 1) (p := 37) (by decide +kernel) rfl rfl ?_
        refine fs_iconst (n := 0) (p := 38) (by decide +kernel) rfl kc_0 ?_
        obtain ⟨q49, w48, h⟩ := fx_bd h
        refine fs_callV (idx := 409) (mj := 211) (ci := 10) (na := 2) (mx := 4) (p := 41) (args := [.ref 215, .int x1, .int (0 : Int32)]) (rest := []) (al2 := [some (.ref 215), some (.int x1), some (.int (0 : Int32)), none]) (by decide +kernel) rfl (by decide +kernel) fo_215 rfl rfl rfl rfl rfl rfl rfl (by omega) (fun d' hd' => fe_211 (by omega) w48) rfl ?_
        refine fs_iconst (n := 0) (p := 42) (by decide +kernel) rfl kc_0 ?_
        refine fs_istore_n (k := 2) (p := 43) (M := 4) (al' := [some (.ref 215), some (.int x1), some (.int (0 : Int32)), none]) (by decide +kernel) rfl mx_212 rfl rfl ?_
        refine fs_iconst (n := 0) (p := 44) (by decide +kernel) rfl kc_0 ?_
        refine fs_istore_n (k := 3) (p := 45) (M := 4) (al' := [some (.ref 215), some (.int x1), some (.int (0 : Int32)), some (.int (0 : Int32))]) (by decide +kernel) rfl mx_212 rfl rfl ?_
        exact fe_212_45 hd 100000 _ _ _ _ _ h
      · rw [if_neg c47] at h
        refine fs_if_ne_f (off := 5) (t := 30) (p := 28) (by decide +kernel) (by decide +kernel) rfl c47 ?_
        refine fs_iconst (n := -1) (p := 29) (by decide +kernel) rfl kc_m1 ?_
        have h := Option.some.inj h
        subst h
        exact fs_iret (by decide +kernel) rt_212
    · rw [if_neg c43] at h
      refine fs_if_ne_f (off := 5) (t := 16) (p := 14) (by decide +kernel) (by decide +kernel) rfl c43 ?_
      refine fs_iconst (n := -1) (p := 15) (by decide +kernel) rfl kc_m1 ?_
      have h := Option.some.inj h
      subst h
      exact fs_iret (by decide +kernel) rt_212

/-! ZoneSharesModel.adopt()I -/
theorem mx_217 : iv_mx 217 = 4 := by decide +kernel
theorem rt_217 : iv_rt 217 = some .int := by decide +kernel
def fm_217_135 : Nat → Int32 → Int32 → fx_S → Option (Int32 × fx_S)
  | 0, _, _, _ => none
  | n + 1, x1, x2, σ =>
    if (96 : Int32) ≤ x2 then (
      some (x1, σ)) else (
      (fx_ld σ 216 ((148 : Int32) + x2)).bind fun v3 =>
      (fx_st σ 216 ((52 : Int32) + x2) v3).bind fun t6 =>
      fm_217_135 n x1 (x2 + (1 : Int32)) t6)
theorem fe_217_135 {d : Nat} (hd : 31 ≤ d) : ∀ (n : Nat) (x1 : Int32) (x2 : Int32) (o3 : Option Value) (σ : fx_S) (q : Int32 × fx_S), fm_217_135 n x1 x2 σ = some q → fx_E none 217 d 135 [some (.ref 215), some (.int x1), some (.int x2), o3] [] σ (some (.int q.1)) q.2 := by
  intro n
  induction n with
  | zero =>
    intro x1 x2 o3 σ q  h
    rw [fm_217_135] at h
    exact fx_no h
  | succ n ih =>
    intro x1 x2 o3 σ q  h
    rw [fm_217_135] at h
    refine fs_iload_n (k := 2) (p := 136) (by decide +kernel) rfl rfl ?_
    refine fs_bipush (n := 96) (p := 138) (by decide +kernel) rfl kb_96 ?_
    by_cases c2 : (96 : Int32) ≤ x2
    · rw [if_pos c2] at h
      refine fs_icmp_ge_t (off := 28) (t := 166) (by decide +kernel) (by decide +kernel) c2 ?_
      refine fs_iload_n (k := 1) (p := 167) (by decide +kernel) rfl rfl ?_
      have h := Option.some.inj h
      subst h
      exact fs_iret (by decide +kernel) rt_217
    · rw [if_neg c2] at h
      refine fs_icmp_ge_f (off := 28) (t := 166) (p := 141) (by decide +kernel) (by decide +kernel) rfl c2 ?_
      refine fs_aload_n (k := 0) (p := 142) (by decide +kernel) rfl rfl ?_
      refine fs_gfr (idx := 9) (ci := 10) (j := 0) (p := 145) (by decide +kernel) rfl (by decide +kernel) fo_215 (fr_a215_0) ?_
      refine fs_bipush (n := 52) (p := 147) (by decide +kernel) rfl kb_52 ?_
      refine fs_iload_n (k := 2) (p := 148) (by decide +kernel) rfl rfl ?_
      refine fs_iadd (p := 149) (by decide +kernel) rfl ?_
      refine fs_aload_n (k := 0) (p := 150) (by decide +kernel) rfl rfl ?_
      refine fs_gfr (idx := 9) (ci := 10) (j := 0) (p := 153) (by decide +kernel) rfl (by decide +kernel) fo_215 (fr_a215_0) ?_
      refine fs_sipush (n := 148) (p := 156) (by decide +kernel) rfl ks_148 ?_
      refine fs_iload_n (k := 2) (p := 157) (by decide +kernel) rfl rfl ?_
      refine fs_iadd (p := 158) (by decide +kernel) rfl ?_
      obtain ⟨v3, w4, h⟩ := fx_bd h
      refine fs_iaload (p := 159) (by decide +kernel) rfl w4 ?_
      obtain ⟨t6, w7, h⟩ := fx_bd h
      refine fs_iastore (p := 160) (by decide +kernel) rfl w7 ?_
      refine fs_iinc (k := 2) (n := 1) (p := 163) (M := 4) (al' := [some (.ref 215), some (.int x1), some (.int (x2 + (1 : Int32))), o3]) (by decide +kernel) rfl kc_1 mx_217 rfl rfl rfl ?_
      refine fs_goto (off := -28) (p := 135) (by decide +kernel) (by decide +kernel) ?_
      exact ih _ _ _ _ _ h
def fm_217_107 : Nat → Int32 → Int32 → fx_S → Option (Int32 × fx_S)
  | 0, _, _, _ => none
  | n + 1, x1, x2, σ =>
    if (27 : Int32) ≤ x2 then (
      fm_217_135 100000 x1 (0 : Int32) σ) else (
      (fx_ld σ 245 x2).bind fun v3 =>
      (fx_st σ 216 ((5 : Int32) + x2) v3).bind fun t6 =>
      fm_217_107 n x1 (x2 + (1 : Int32)) t6)
theorem fe_217_107 {d : Nat} (hd : 31 ≤ d) : ∀ (n : Nat) (x1 : Int32) (x2 : Int32) (o3 : Option Value) (σ : fx_S) (q : Int32 × fx_S), fm_217_107 n x1 x2 σ = some q → fx_E none 217 d 107 [some (.ref 215), some (.int x1), some (.int x2), o3] [] σ (some (.int q.1)) q.2 := by
  intro n
  induction n with
  | zero =>
    intro x1 x2 o3 σ q  h
    rw [fm_217_107] at h
    exact fx_no h
  | succ n ih =>
    intro x1 x2 o3 σ q  h
    rw [fm_217_107] at h
    refine fs_iload_n (k := 2) (p := 108) (by decide +kernel) rfl rfl ?_
    refine fs_bipush (n := 27) (p := 110) (by decide +kernel) rfl kb_27 ?_
    by_cases c2 : (27 : Int32) ≤ x2
    · rw [if_pos c2] at h
      refine fs_icmp_ge_t (off := 23) (t := 133) (by decide +kernel) (by decide +kernel) c2 ?_
      refine fs_iconst (n := 0) (p := 134) (by decide +kernel) rfl kc_0 ?_
      refine fs_istore_n (k := 2) (p := 135) (M := 4) (al' := [some (.ref 215), some (.int x1), some (.int (0 : Int32)), o3]) (by decide +kernel) rfl mx_217 rfl rfl ?_
      exact fe_217_135 hd 100000 _ _ _ _ _ h
    · rw [if_neg c2] at h
      refine fs_icmp_ge_f (off := 23) (t := 133) (p := 113) (by decide +kernel) (by decide +kernel) rfl c2 ?_
      refine fs_aload_n (k := 0) (p := 114) (by decide +kernel) rfl rfl ?_
      refine fs_gfr (idx := 9) (ci := 10) (j := 0) (p := 117) (by decide +kernel) rfl (by decide +kernel) fo_215 (fr_a215_0) ?_
      refine fs_iconst (n := 5) (p := 118) (by decide +kernel) rfl kc_5 ?_
      refine fs_iload_n (k := 2) (p := 119) (by decide +kernel) rfl rfl ?_
      refine fs_iadd (p := 120) (by decide +kernel) rfl ?_
      refine fs_aload_n (k := 0) (p := 121) (by decide +kernel) rfl rfl ?_
      refine fs_gfr (idx := 100) (ci := 10) (j := 46) (p := 124) (by decide +kernel) rfl (by decide +kernel) fo_215 (fr_a215_46) ?_
      refine fs_iload_n (k := 2) (p := 125) (by decide +kernel) rfl rfl ?_
      obtain ⟨v3, w4, h⟩ := fx_bd h
      refine fs_iaload (p := 126) (by decide +kernel) rfl w4 ?_
      obtain ⟨t6, w7, h⟩ := fx_bd h
      refine fs_iastore (p := 127) (by decide +kernel) rfl w7 ?_
      refine fs_iinc (k := 2) (n := 1) (p := 130) (M := 4) (al' := [some (.ref 215), some (.int x1), some (.int (x2 + (1 : Int32))), o3]) (by decide +kernel) rfl kc_1 mx_217 rfl rfl rfl ?_
      refine fs_goto (off := -23) (p := 107) (by decide +kernel) (by decide +kernel) ?_
      exact ih _ _ _ _ _ h
def fm_217_67 (k_29 : Int32 → Int32 → Int32 → fx_S → Option (Int32 × fx_S)) (x2 : Int32) (x3 : Int32) (s0 : Int32) (s1 : Int32) (σ : fx_S) : Option (Int32 × fx_S) :=
  k_29 (s0 + s1) x2 (x3 + (1 : Int32)) σ
theorem fe_217_67 {d : Nat} (hd : 31 ≤ d) {k_29 : Int32 → Int32 → Int32 → fx_S → Option (Int32 × fx_S)} (hk_29 : ∀ (x1 : Int32) (x2 : Int32) (x3 : Int32) (σ : fx_S) (q : Int32 × fx_S), k_29 x1 x2 x3 σ = some q → fx_E none 217 d 29 [some (.ref 215), some (.int x1), some (.int x2), some (.int x3)] [] σ (some (.int q.1)) q.2) (x2 : Int32) (x3 : Int32) (s0 : Int32) (s1 : Int32) (o1 : Option Value) (σ : fx_S) (q : Int32 × fx_S) (h : fm_217_67 k_29  x2 x3 s0 s1 σ = some q) : fx_E none 217 d 67 [some (.ref 215), o1, some (.int x2), some (.int x3)] [.int s1, .int s0] σ (some (.int q.1)) q.2 := by
  unfold fm_217_67 at h
  refine fs_iadd (p := 68) (by decide +kernel) rfl ?_
  refine fs_istore_n (k := 1) (p := 69) (M := 4) (al' := [some (.ref 215), some (.int (s0 + s1)), some (.int x2), some (.int x3)]) (by decide +kernel) rfl mx_217 rfl rfl ?_
  refine fs_iinc (k := 3) (n := 1) (p := 72) (M := 4) (al' := [some (.ref 215), some (.int (s0 + s1)), some (.int x2), some (.int (x3 + (1 : Int32)))]) (by decide +kernel) rfl kc_1 mx_217 rfl rfl rfl ?_
  refine fs_goto (off := -43) (p := 29) (by decide +kernel) (by decide +kernel) ?_
  exact hk_29 _ _ _ _ _ h
def fm_217_29 (k_13 : Int32 → Int32 → fx_S → Option (Int32 × fx_S)) : Nat → Int32 → Int32 → Int32 → fx_S → Option (Int32 × fx_S)
  | 0, _, _, _, _ => none
  | n + 1, x1, x2, x3, σ =>
    if (9 : Int32) ≤ x3 then (
      (fx_ld σ 245 (((9 : Int32) * x2) + (8 : Int32))).bind fun v3 =>
      (fm_176 x2 σ).bind fun q7 =>
      (fx_st q7.2 245 (((9 : Int32) * x2) + (8 : Int32)) (v3 + q7.1)).bind fun t8 =>
      k_13 x1 (x2 + (1 : Int32)) t8) else (
      (fm_183 x3 σ).bind fun q11 =>
      (fx_st q11.2 245 (((9 : Int32) * x2) + x3) q11.1).bind fun t12 =>
      if (8 : Int32) ≤ x3 then (
        fm_217_67 (fm_217_29 k_13 n) x2 x3 x1 (0 : Int32) t12) else (
        (fm_183 x3 t12).bind fun q17 =>
        fm_217_67 (fm_217_29 k_13 n) x2 x3 x1 q17.1 q17.2))
theorem fe_217_29 {d : Nat} (hd : 31 ≤ d) {k_13 : Int32 → Int32 → fx_S → Option (Int32 × fx_S)} (hk_13 : ∀ (x1 : Int32) (x2 : Int32) (o3 : Option Value) (σ : fx_S) (q : Int32 × fx_S), k_13 x1 x2 σ = some q → fx_E none 217 d 13 [some (.ref 215), some (.int x1), some (.int x2), o3] [] σ (some (.int q.1)) q.2) : ∀ (n : Nat) (x1 : Int32) (x2 : Int32) (x3 : Int32) (σ : fx_S) (q : Int32 × fx_S), fm_217_29 k_13 n x1 x2 x3 σ = some q → fx_E none 217 d 29 [some (.ref 215), some (.int x1), some (.int x2), some (.int x3)] [] σ (some (.int q.1)) q.2 := by
  intro n
  induction n with
  | zero =>
    intro x1 x2 x3 σ q  h
    rw [fm_217_29] at h
    exact fx_no h
  | succ n ih =>
    intro x1 x2 x3 σ q  h
    rw [fm_217_29] at h
    refine fs_iload_n (k := 3) (p := 30) (by decide +kernel) rfl rfl ?_
    refine fs_bipush (n := 9) (p := 32) (by decide +kernel) rfl kb_9 ?_
    by_cases c2 : (9 : Int32) ≤ x3
    · rw [if_pos c2] at h
      refine fs_icmp_ge_t (off := 43) (t := 75) (by decide +kernel) (by decide +kernel) c2 ?_
      refine fs_aload_n (k := 0) (p := 76) (by decide +kernel) rfl rfl ?_
      refine fs_gfr (idx := 100) (ci := 10) (j := 46) (p := 79) (by decide +kernel) rfl (by decide +kernel) fo_215 (fr_a215_46) ?_
      refine fs_bipush (n := 9) (p := 81) (by decide +kernel) rfl kb_9 ?_
      refine fs_iload_n (k := 2) (p := 82) (by decide +kernel) rfl rfl ?_
      refine fs_imul (p := 83) (by decide +kernel) rfl ?_
      refine fs_bipush (n := 8) (p := 85) (by decide +kernel) rfl kb_8 ?_
      refine fs_iadd (p := 86) (by decide +kernel) rfl ?_
      refine fs_dup2 (p := 87) (by decide +kernel) rfl rfl rfl ?_
      obtain ⟨v3, w4, h⟩ := fx_bd h
      refine fs_iaload (p := 88) (by decide +kernel) rfl w4 ?_
      refine fs_aload_n (k := 0) (p := 89) (by decide +kernel) rfl rfl ?_
      refine fs_iload_n (k := 2) (p := 90) (by decide +kernel) rfl rfl ?_
      obtain ⟨q7, w6, h⟩ := fx_bd h
      refine fs_callV (idx := 284) (mj := 176) (ci := 10) (na := 1) (mx := 2) (p := 93) (args := [.ref 215, .int x2]) (rest := [.int v3, .int (((9 : Int32) * x2) + (8 : Int32)), .ref 245]) (al2 := [some (.ref 215), some (.int x2)]) (by decide +kernel) rfl (by decide +kernel) fo_215 rfl rfl rfl rfl rfl rfl rfl (by omega) (fun d' hd' => fe_176 (by omega) w6) rfl ?_
      refine fs_iadd (p := 94) (by decide +kernel) rfl ?_
      obtain ⟨t8, w9, h⟩ := fx_bd h
      refine fs_iastore (p := 95) (by decide +kernel) rfl w9 ?_
      refine fs_iinc (k := 2) (n := 1) (p := 98) (M := 4) (al' := [some (.ref 215), some (.int x1), some (.int (x2 + (1 : Int32))), some (.int x3)]) (by decide +kernel) rfl kc_1 mx_217 rfl rfl rfl ?_
      refine fs_goto (off := -85) (p := 13) (by decide +kernel) (by decide +kernel) ?_
      exact hk_13 _ _ _ _ _ h
    · rw [if_neg c2] at h
      refine fs_icmp_ge_f (off := 43) (t := 75) (p := 35) (by decide +kernel) (by decide +kernel) rfl c2 ?_
      refine fs_aload_n (k := 0) (p := 36) (by decide +kernel) rfl rfl ?_
      refine fs_gfr (idx := 100) (ci := 10) (j := 46) (p := 39) (by decide +kernel) rfl (by decide +kernel) fo_215 (fr_a215_46) ?_
      refine fs_bipush (n := 9) (p := 41) (by decide +kernel) rfl kb_9 ?_
      refine fs_iload_n (k := 2) (p := 42) (by decide +kernel) rfl rfl ?_
      refine fs_imul (p := 43) (by decide +kernel) rfl ?_
      refine fs_iload_n (k := 3) (p := 44) (by decide +kernel) rfl rfl ?_
      refine fs_iadd (p := 45) (by decide +kernel) rfl ?_
      refine fs_aload_n (k := 0) (p := 46) (by decide +kernel) rfl rfl ?_
      refine fs_iload_n (k := 3) (p := 47) (by decide +kernel) rfl rfl ?_
      obtain ⟨q11, w10, h⟩ := fx_bd h
      refine fs_callV (idx := 321) (mj := 183) (ci := 10) (na := 1) (mx := 4) (p := 50) (args := [.ref 215, .int x3]) (rest := [.int (((9 : Int32) * x2) + x3), .ref 245]) (al2 := [some (.ref 215), some (.int x3), none, none]) (by decide +kernel) rfl (by decide +kernel) fo_215 rfl rfl rfl rfl rfl rfl rfl (by omega) (fun d' hd' => fe_183 (by omega) w10) rfl ?_
      obtain ⟨t12, w13, h⟩ := fx_bd h
      refine fs_iastore (p := 51) (by decide +kernel) rfl w13 ?_
      refine fs_iload_n (k := 1) (p := 52) (by decide +kernel) rfl rfl ?_
      refine fs_iload_n (k := 3) (p := 53) (by decide +kernel) rfl rfl ?_
      refine fs_bipush (n := 8) (p := 55) (by decide +kernel) rfl kb_8 ?_
      by_cases c15 : (8 : Int32) ≤ x3
      · rw [if_pos c15] at h
        refine fs_icmp_ge_t (off := 11) (t := 66) (by decide +kernel) (by decide +kernel) c15 ?_
        refine fs_iconst (n := 0) (p := 67) (by decide +kernel) rfl kc_0 ?_
        exact fe_217_67 hd ih _ _ _ _ _ _ _ h
      · rw [if_neg c15] at h
        refine fs_icmp_ge_f (off := 11) (t := 66) (p := 58) (by decide +kernel) (by decide +kernel) rfl c15 ?_
        refine fs_aload_n (k := 0) (p := 59) (by decide +kernel) rfl rfl ?_
        refine fs_iload_n (k := 3) (p := 60) (by decide +kernel) rfl rfl ?_
        obtain ⟨q17, w16, h⟩ := fx_bd h
        refine fs_callV (idx := 321) (mj := 183) (ci := 10) (na := 1) (mx := 4) (p := 63) (args := [.ref 215, .int x3]) (rest := [.int x1]) (al2 := [some (.ref 215), some (.int x3), none, none]) (by decide +kernel) rfl (by decide +kernel) fo_215 rfl rfl rfl rfl rfl rfl rfl (by omega) (fun d' hd' => fe_183 (by omega) w16) rfl ?_
        refine fs_goto (off := 4) (p := 67) (by decide +kernel) (by decide +kernel) ?_
        exact fe_217_67 hd ih _ _ _ _ _ _ _ h
def fm_217_13 : Nat → Int32 → Int32 → fx_S → Option (Int32 × fx_S)
  | 0, _, _, _ => none
  | n + 1, x1, x2, σ =>
    if (3 : Int32) ≤ x2 then (
      (fm_132 σ).bind fun q4 =>
      fm_217_107 100000 x1 (0 : Int32) q4) else (
      (fm_181 x2 σ).bind fun q6 =>
      (fm_173 q6).bind fun q8 =>
      fm_217_29 (fm_217_13 n) 100000 x1 x2 (0 : Int32) q8)
theorem fe_217_13 {d : Nat} (hd : 31 ≤ d) : ∀ (n : Nat) (x1 : Int32) (x2 : Int32) (o3 : Option Value) (σ : fx_S) (q : Int32 × fx_S), fm_217_13 n x1 x2 σ = some q → fx_E none 217 d 13 [some (.ref 215), some (.int x1), some (.int x2), o3] [] σ (some (.int q.1)) q.2 := by
  intro n
  induction n with
  | zero =>
    intro x1 x2 o3 σ q  h
    rw [fm_217_13] at h
    exact fx_no h
  | succ n ih =>
    intro x1 x2 o3 σ q  h
    rw [fm_217_13] at h
    refine fs_iload_n (k := 2) (p := 14) (by decide +kernel) rfl rfl ?_
    refine fs_iconst (n := 3) (p := 15) (by decide +kernel) rfl kc_3 ?_
    by_cases c2 : (3 : Int32) ≤ x2
    · rw [if_pos c2] at h
      refine fs_icmp_ge_t (off := 86) (t := 101) (by decide +kernel) (by decide +kernel) c2 ?_
      refine fs_aload_n (k := 0) (p := 102) (by decide +kernel) rfl rfl ?_
      obtain ⟨q4, w3, h⟩ := fx_bd h
      refine fs_callV (idx := 170) (mj := 132) (ci := 10) (na := 0) (mx := 2) (p := 105) (args := [.ref 215]) (rest := []) (al2 := [some (.ref 215), none]) (by decide +kernel) rfl (by decide +kernel) fo_215 rfl rfl rfl rfl rfl rfl rfl (by omega) (fun d' hd' => fe_132 (by omega) w3) rfl ?_
      refine fs_iconst (n := 0) (p := 106) (by decide +kernel) rfl kc_0 ?_
      refine fs_istore_n (k := 2) (p := 107) (M := 4) (al' := [some (.ref 215), some (.int x1), some (.int (0 : Int32)), o3]) (by decide +kernel) rfl mx_217 rfl rfl ?_
      exact fe_217_107 hd 100000 _ _ _ _ _ h
    · rw [if_neg c2] at h
      refine fs_icmp_ge_f (off := 86) (t := 101) (p := 18) (by decide +kernel) (by decide +kernel) rfl c2 ?_
      refine fs_aload_n (k := 0) (p := 19) (by decide +kernel) rfl rfl ?_
      refine fs_iload_n (k := 2) (p := 20) (by decide +kernel) rfl rfl ?_
      obtain ⟨q6, w5, h⟩ := fx_bd h
      refine fs_callV (idx := 312) (mj := 181) (ci := 10) (na := 1) (mx := 5) (p := 23) (args := [.ref 215, .int x2]) (rest := []) (al2 := [some (.ref 215), some (.int x2), none, none, none]) (by decide +kernel) rfl (by decide +kernel) fo_215 rfl rfl rfl rfl rfl rfl rfl (by omega) (fun d' hd' => fe_181 (by omega) w5) rfl ?_
      refine fs_aload_n (k := 0) (p := 24) (by decide +kernel) rfl rfl ?_
      obtain ⟨q8, w7, h⟩ := fx_bd h
      refine fs_callV (idx := 315) (mj := 173) (ci := 10) (na := 0) (mx := 2) (p := 27) (args := [.ref 215]) (rest := []) (al2 := [some (.ref 215), none]) (by decide +kernel) rfl (by decide +kernel) fo_215 rfl rfl rfl rfl rfl rfl rfl (by omega) (fun d' hd' => fe_173 (by omega) w7) rfl ?_
      refine fs_iconst (n := 0) (p := 28) (by decide +kernel) rfl kc_0 ?_
      refine fs_istore_n (k := 3) (p := 29) (M := 4) (al' := [some (.ref 215), some (.int x1), some (.int x2), some (.int (0 : Int32))]) (by decide +kernel) rfl mx_217 rfl rfl ?_
      exact fe_217_29 hd ih 100000 _ _ _ _ _ h
def fm_217 (σ : fx_S) : Option (Int32 × fx_S) :=
  (fm_150 σ).bind fun q62 =>
  if ¬ (fx_b q62.1) = 0 then (
    fm_217_13 100000 (0 : Int32) (0 : Int32) q62.2) else (
    some ((-1 : Int32), q62.2))
theorem fe_217 {d : Nat} (hd : 31 ≤ d) {σ : fx_S} {q : Int32 × fx_S} (h : fm_217 σ = some q) : fx_E none 217 d 0 [some (.ref 215), none, none, none] [] σ (some (.int q.1)) q.2 := by
  unfold fm_217 at h
  refine fs_aload_n (k := 0) (p := 1) (by decide +kernel) rfl rfl ?_
  obtain ⟨q62, w61, h⟩ := fx_bd h
  refine fs_callV (idx := 303) (mj := 150) (ci := 10) (na := 0) (mx := 1) (p := 4) (args := [.ref 215]) (rest := []) (al2 := [some (.ref 215)]) (by decide +kernel) rfl (by decide +kernel) fo_215 rfl rfl rfl rfl rfl rfl rfl (by omega) (fun d' hd' => fe_150 (by omega) w61) rfl ?_
  by_cases c63 : ¬ (fx_b q62.1) = 0
  · rw [if_pos c63] at h
    refine fs_if_ne_t (off := 5) (t := 9) (by decide +kernel) (by decide +kernel) c63 ?_
    refine fs_iconst (n := 0) (p := 10) (by decide +kernel) rfl kc_0 ?_
    refine fs_istore_n (k := 1) (p := 11) (M := 4) (al' := [some (.ref 215), some (.int (0 : Int32)), none, none]) (by decide +kernel) rfl mx_217 rfl rfl ?_
    refine fs_iconst (n := 0) (p := 12) (by decide +kernel) rfl kc_0 ?_
    refine fs_istore_n (k := 2) (p := 13) (M := 4) (al' := [some (.ref 215), some (.int (0 : Int32)), some (.int (0 : Int32)), none]) (by decide +kernel) rfl mx_217 rfl rfl ?_
    exact fe_217_13 hd 100000 _ _ _ _ _ h
  · rw [if_neg c63] at h
    refine fs_if_ne_f (off := 5) (t := 9) (p := 7) (by decide +kernel) (by decide +kernel) rfl c63 ?_
    refine fs_iconst (n := -1) (p := 8) (by decide +kernel) rfl kc_m1 ?_
    have h := Option.some.inj h
    subst h
    exact fs_iret (by decide +kernel) rt_217
