/-! ZoneSharesLaw.divisor(JJ)J -/
theorem mx_251 : iv_mx 251 = 4 := by decide +kernel
theorem rt_251 : iv_rt 251 = some .long := by decide +kernel
def dm_251f (L : Nat) (xs : Nat → Int32) : Nat → Int → Int → gx_S → dS → Option (Int × DS)
  | 0, _, _, _, _ => none
  | n + 1, x0, x2, s, δ =>
    if (-9223372036854775808 ≤ x2 ∧ x2 ≤ 9223372036854775807) then (
    if ¬ x2 = 0 then (
      if 0 ≤ x0 ∧ x0 ≤ 9223372036854775807 ∧ 0 < x2 ∧ x2 ≤ 9223372036854775807 then (
      (dm_251f L xs n x2 (x0 % x2) s δ).bind fun q4 =>
      some (q4.1, q4.2.1, q4.2.2)) else none) else (
      some (x0, s, δ))) else none
theorem de_251f {z : iv_Z} {L : Nat} {xs : Nat → Int32} (hz : dZ z L xs) : ∀ (n : Nat) {d : Nat} (hd : n + 1 ≤ d) {x0 : Int} {x2 : Int} {s : gx_S} {δ : dS} {q : Int × DS} (h : dm_251f L xs n x0 x2 s δ = some q), dE z 251 d 0 [some (.long (Int64.ofInt x0)), none, some (.long (Int64.ofInt x2)), none] [] (s, δ) (some (.long (Int64.ofInt q.1))) q.2 := by
  intro n
  induction n with
  | zero =>
    intro d hd x0 x2 s δ q h
    rw [dm_251f] at h
    exact fx_no h
  | succ n ih =>
    intro d hd x0 x2 s δ q h
    rw [dm_251f] at h
    refine ds_lload_n (k := 2) (p := 1) (by decide +kernel) rfl rfl ?_
    refine ds_lconst (n := 0) (p := 2) (by decide +kernel) rfl dl_0 ?_
    obtain ⟨z1, h⟩ := fx_gd h
    by_cases c2 : ¬ x2 = 0
    · rw [if_pos c2] at h
      refine ds_lcmp_ne_t (off := 7) (t := 10) (by decide +kernel) (by decide +kernel) (by decide +kernel) ((gcl_ne rfl rfl z1 (by decide)).mpr c2) ?_
      refine ds_lload_n (k := 2) (p := 11) (by decide +kernel) rfl rfl ?_
      refine ds_lload_n (k := 0) (p := 12) (by decide +kernel) rfl rfl ?_
      refine ds_lload_n (k := 2) (p := 13) (by decide +kernel) rfl rfl ?_
      obtain ⟨z3, h⟩ := fx_gd h
      refine ds_lrem (p := 14) (c := Int64.ofInt (x0 % x2)) (by decide +kernel) rfl (gcl_nz rfl (x := x0) z3) (gal_rem rfl rfl z3) ?_
      obtain ⟨q4, w5, h⟩ := fx_bd h
      refine ds_callS (idx := 134) (mj := 251) (na := 2) (mx := 4) (p := 17) (args := [.long (Int64.ofInt x2), .long (Int64.ofInt (x0 % x2))]) (rest := []) (al2 := [some (.long (Int64.ofInt x2)), none, some (.long (Int64.ofInt (x0 % x2))), none]) (S2 := q4.2) (by decide +kernel) rfl (by decide +kernel) rfl rfl rfl rfl rfl rfl (by omega) (fun d' hd' => ih (by omega) w5) rfl ?_
      have h := Option.some.inj h
      subst h
      exact ds_lret (by decide +kernel) rt_251
    · rw [if_neg c2] at h
      refine ds_lcmp_ne_f (off := 7) (t := 10) (p := 6) (by decide +kernel) (by decide +kernel) (by decide +kernel) rfl (fun q => c2 ((gcl_ne rfl rfl z1 (by decide)).mp q)) ?_
      refine ds_lload_n (k := 0) (p := 7) (by decide +kernel) rfl rfl ?_
      refine ds_goto (off := 10) (p := 17) (by decide +kernel) (by decide +kernel) ?_
      have h := Option.some.inj h
      subst h
      exact ds_lret (by decide +kernel) rt_251
def dm_251 (L : Nat) (xs : Nat → Int32) (x0 : Int) (x2 : Int) (s : gx_S) (δ : dS) : Option (Int × DS) := dm_251f L xs 100 x0 x2 s δ
theorem de_251 {z : iv_Z} {L : Nat} {xs : Nat → Int32} (hz : dZ z L xs) {d : Nat} (hd : 101 ≤ d) {x0 : Int} {x2 : Int} {s : gx_S} {δ : dS} {q : Int × DS} (h : dm_251 L xs x0 x2 s δ = some q) : dE z 251 d 0 [some (.long (Int64.ofInt x0)), none, some (.long (Int64.ofInt x2)), none] [] (s, δ) (some (.long (Int64.ofInt q.1))) q.2 := de_251f hz 100 (by omega) h
/-! java/lang/String.coder()B d -/
theorem mx_282 : iv_mx 282 = 1 := by decide +kernel
theorem rt_282 : iv_rt 282 = some .byte := by decide +kernel
def dm_282 (x0 : Nat) (s : gx_S) (δ : dS) : Option (Int × DS) :=
  if dO δ x0 12 then (
  if -128 ≤ (δ.I x0 1) ∧ (δ.I x0 1) ≤ 127 then (
  some ((δ.I x0 1), s, δ)) else none) else none
theorem de_282 {z : iv_Z} {L : Nat} {xs : Nat → Int32} (hz : dZ z L xs) {d : Nat} (hd : 0 ≤ d) {x0 : Nat} {s : gx_S} {δ : dS} {q : Int × DS} (h : dm_282 x0 s δ = some q) : dE z 282 d 0 [some (.ref x0)] [] (s, δ) (some (.int (Int32.ofInt q.1))) q.2 := by
  unfold dm_282 at h
  refine ds_gets0 (idx := 38) (p := 3) (by decide +kernel) rfl (by decide +kernel) ?_
  refine ds_if_eq_f (off := 10) (t := 13) (p := 6) (by decide +kernel) (by decide +kernel) rfl (fun q => absurd ((gc_eq (x := 1) (y := 0) rfl rfl (by decide) (by decide)).mp q) (by decide)) ?_
  refine ds_aload_n (k := 0) (p := 7) (by decide +kernel) rfl rfl ?_
  obtain ⟨z1, h⟩ := fx_gd h
  refine ds_gfi (idx := 15) (ci := 12) (j := 1) (p := 10) (by decide +kernel) rfl (by decide +kernel) z1 ?_
  refine ds_goto (off := 4) (p := 14) (by decide +kernel) (by decide +kernel) ?_
  obtain ⟨z2, h⟩ := fx_gd h
  have h := Option.some.inj h
  subst h
  exact ds_iret (by decide +kernel) rt_282 (dok_b z2)
/-! java/lang/String.length()I d -/
theorem mx_278 : iv_mx 278 = 1 := by decide +kernel
theorem rt_278 : iv_rt 278 = some .int := by decide +kernel
def dm_278 (x0 : Nat) (s : gx_S) (δ : dS) : Option (Int × DS) :=
  if dO δ x0 12 then (
  (δ.P x0 0).bind fun v2 =>
  if dA δ 3 v2 then (
  (dm_282 x0 s δ).bind fun q5 =>
  some ((Int32.ofInt ((δ.sh v2).2 : Int) >>> (Int32.ofInt q5.1 &&& 31)).toInt, q5.2.1, q5.2.2)) else none) else none
theorem de_278 {z : iv_Z} {L : Nat} {xs : Nat → Int32} (hz : dZ z L xs) {d : Nat} (hd : 1 ≤ d) {x0 : Nat} {s : gx_S} {δ : dS} {q : Int × DS} (h : dm_278 x0 s δ = some q) : dE z 278 d 0 [some (.ref x0)] [] (s, δ) (some (.int (Int32.ofInt q.1))) q.2 := by
  unfold dm_278 at h
  refine ds_aload_n (k := 0) (p := 1) (by decide +kernel) rfl rfl ?_
  obtain ⟨z1, h⟩ := fx_gd h
  obtain ⟨v2, w3, h⟩ := fx_bd h
  refine ds_gfr (idx := 9) (ci := 12) (j := 0) (p := 4) (by decide +kernel) rfl (by decide +kernel) z1 w3 ?_
  obtain ⟨z4, h⟩ := fx_gd h
  refine ds_alen (t := 3) (p := 5) (by decide +kernel) rfl z4 (by decide) ?_
  refine ds_aload_n (k := 0) (p := 6) (by decide +kernel) rfl rfl ?_
  obtain ⟨q5, w6, h⟩ := fx_bd h
  refine ds_callV (idx := 335) (mj := 282) (ci := 12) (na := 0) (mx := 1) (p := 9) (args := [.ref x0]) (rest := [.int (Int32.ofInt ((δ.sh v2).2 : Int))]) (al2 := [some (.ref x0)]) (S2 := q5.2) (by decide +kernel) rfl (by decide +kernel) (Or.inl ⟨_, rfl, Or.inl z1⟩) rfl rfl rfl rfl rfl rfl (by omega) (fun d' hd' => de_282 hz (by omega) w6) rfl ?_
  refine ds_ishr (p := 10) (c := Int32.ofInt (Int32.ofInt ((δ.sh v2).2 : Int) >>> (Int32.ofInt q5.1 &&& 31)).toInt) (by decide +kernel) rfl (Int32.ofInt_toInt _).symm ?_
  have h := Option.some.inj h
  subst h
  exact ds_iret (by decide +kernel) rt_278 rfl
/-! java/lang/String.isLatin1()Z d -/
theorem mx_283 : iv_mx 283 = 1 := by decide +kernel
theorem rt_283 : iv_rt 283 = some .boolean := by decide +kernel
def dm_283 (x0 : Nat) (s : gx_S) (δ : dS) : Option (Int × DS) :=
  if dO δ x0 12 then (
  if (-2147483648 ≤ (δ.I x0 1) ∧ (δ.I x0 1) ≤ 2147483647) then (
  if ¬ (δ.I x0 1) = 0 then (
    some (0, s, δ)) else (
    some (1, s, δ))) else none) else none
theorem de_283 {z : iv_Z} {L : Nat} {xs : Nat → Int32} (hz : dZ z L xs) {d : Nat} (hd : 0 ≤ d) {x0 : Nat} {s : gx_S} {δ : dS} {q : Int × DS} (h : dm_283 x0 s δ = some q) : dE z 283 d 0 [some (.ref x0)] [] (s, δ) (some (.int (Int32.ofInt q.1))) q.2 := by
  unfold dm_283 at h
  refine ds_gets0 (idx := 38) (p := 3) (by decide +kernel) rfl (by decide +kernel) ?_
  refine ds_if_eq_f (off := 14) (t := 17) (p := 6) (by decide +kernel) (by decide +kernel) rfl (fun q => absurd ((gc_eq (x := 1) (y := 0) rfl rfl (by decide) (by decide)).mp q) (by decide)) ?_
  refine ds_aload_n (k := 0) (p := 7) (by decide +kernel) rfl rfl ?_
  obtain ⟨z1, h⟩ := fx_gd h
  refine ds_gfi (idx := 15) (ci := 12) (j := 1) (p := 10) (by decide +kernel) rfl (by decide +kernel) z1 ?_
  obtain ⟨z2, h⟩ := fx_gd h
  by_cases c3 : ¬ (δ.I x0 1) = 0
  · rw [if_pos c3] at h
    refine ds_if_ne_t (off := 7) (t := 17) (by decide +kernel) (by decide +kernel) ((gc_ne rfl rfl z2 (by decide)).mpr c3) ?_
    refine ds_iconst (n := 0) (p := 18) (by decide +kernel) rfl rfl ?_
    have h := Option.some.inj h
    subst h
    exact ds_iret (by decide +kernel) rt_283 (by decide +kernel)
  · rw [if_neg c3] at h
    refine ds_if_ne_f (off := 7) (t := 17) (p := 13) (by decide +kernel) (by decide +kernel) rfl (fun q => c3 ((gc_ne rfl rfl z2 (by decide)).mp q)) ?_
    refine ds_iconst (n := 1) (p := 14) (by decide +kernel) rfl rfl ?_
    refine ds_goto (off := 4) (p := 18) (by decide +kernel) (by decide +kernel) ?_
    have h := Option.some.inj h
    subst h
    exact ds_iret (by decide +kernel) rt_283 (by decide +kernel)
/-! jdk/internal/util/Preconditions.checkIndex(IILjava/util/function/BiFunction;)I r100 -/
theorem mx_288 : iv_mx 288 = 3 := by decide +kernel
theorem rt_288 : iv_rt 288 = some .int := by decide +kernel
def dm_288_r100_9 (x0 : Int) (x1 : Int) (s : gx_S) (δ : dS) : Option (Int × DS) :=
  none
theorem de_288_r100_9 {z : iv_Z} {L : Nat} {xs : Nat → Int32} (hz : dZ z L xs) {d : Nat} (hd : 0 ≤ d) (x0 : Int) (x1 : Int) (s : gx_S) (δ : dS) (q : Int × DS) (h : dm_288_r100_9  x0 x1 s δ = some q) : dE z 288 d 9 [some (.int (Int32.ofInt x0)), some (.int (Int32.ofInt x1)), some (.retAddr 100)] [] (s, δ) (some (.int (Int32.ofInt q.1))) q.2 := by
  unfold dm_288_r100_9 at h
  exact fx_no h
def dm_288_r100 (x0 : Int) (x1 : Int) (s : gx_S) (δ : dS) : Option (Int × DS) :=
  if (-2147483648 ≤ x0 ∧ x0 ≤ 2147483647) then (
  if x0 < 0 then (
    dm_288_r100_9 x0 x1 s δ) else (
    if (-2147483648 ≤ x1 ∧ x1 ≤ 2147483647) then (
    if x0 < x1 then (
      some (x0, s, δ)) else (
      dm_288_r100_9 x0 x1 s δ)) else none)) else none
theorem de_288_r100 {z : iv_Z} {L : Nat} {xs : Nat → Int32} (hz : dZ z L xs) {d : Nat} (hd : 0 ≤ d) {x0 : Int} {x1 : Int} {s : gx_S} {δ : dS} {q : Int × DS} (h : dm_288_r100 x0 x1 s δ = some q) : dE z 288 d 0 [some (.int (Int32.ofInt x0)), some (.int (Int32.ofInt x1)), some (.retAddr 100)] [] (s, δ) (some (.int (Int32.ofInt q.1))) q.2 := by
  unfold dm_288_r100 at h
  refine ds_iload_n (k := 0) (p := 1) (by decide +kernel) rfl rfl ?_
  obtain ⟨z1, h⟩ := fx_gd h
  by_cases c2 : x0 < 0
  · rw [if_pos c2] at h
    refine ds_if_lt_t (off := 8) (t := 9) (by decide +kernel) (by decide +kernel) ((gc_lt rfl rfl z1 (by decide)).mpr c2) ?_
    exact de_288_r100_9 hz hd _ _ _ _ _ h
  · rw [if_neg c2] at h
    refine ds_if_lt_f (off := 8) (t := 9) (p := 4) (by decide +kernel) (by decide +kernel) rfl (fun q => c2 ((gc_lt rfl rfl z1 (by decide)).mp q)) ?_
    refine ds_iload_n (k := 0) (p := 5) (by decide +kernel) rfl rfl ?_
    refine ds_iload_n (k := 1) (p := 6) (by decide +kernel) rfl rfl ?_
    obtain ⟨z3, h⟩ := fx_gd h
    by_cases c4 : x0 < x1
    · rw [if_pos c4] at h
      refine ds_icmp_lt_t (off := 10) (t := 16) (by decide +kernel) (by decide +kernel) ((gc_lt rfl rfl z1 z3).mpr c4) ?_
      refine ds_iload_n (k := 0) (p := 17) (by decide +kernel) rfl rfl ?_
      have h := Option.some.inj h
      subst h
      exact ds_iret (by decide +kernel) rt_288 rfl
    · rw [if_neg c4] at h
      refine ds_icmp_lt_f (off := 10) (t := 16) (p := 9) (by decide +kernel) (by decide +kernel) rfl (fun q => c4 ((gc_lt rfl rfl z1 z3).mp q)) ?_
      exact de_288_r100_9 hz hd _ _ _ _ _ h
/-! java/lang/String.checkIndex(II)V  -/
theorem mx_284 : iv_mx 284 = 2 := by decide +kernel
theorem rt_284 : iv_rt 284 = none := by decide +kernel
def dm_284 (x0 : Int) (x1 : Int) (s : gx_S) (δ : dS) : Option (DS) :=
  (dm_288_r100 x0 x1 s δ).bind fun q1 =>
  some (q1.2.1, q1.2.2)
theorem de_284 {z : iv_Z} {L : Nat} {xs : Nat → Int32} (hz : dZ z L xs) {d : Nat} (hd : 1 ≤ d) {x0 : Int} {x1 : Int} {s : gx_S} {δ : dS} {q : DS} (h : dm_284 x0 x1 s δ = some q) : dE z 284 d 0 [some (.int (Int32.ofInt x0)), some (.int (Int32.ofInt x1))] [] (s, δ) none q := by
  unfold dm_284 at h
  refine ds_iload_n (k := 0) (p := 1) (by decide +kernel) rfl rfl ?_
  refine ds_iload_n (k := 1) (p := 2) (by decide +kernel) rfl rfl ?_
  refine ds_getsr (idx := 1053) (k := 3) (n := 100) (p := 5) (by decide +kernel) rfl (by decide +kernel) rfl rfl ?_
  obtain ⟨q1, w2, h⟩ := fx_bd h
  refine ds_callS (idx := 1059) (mj := 288) (na := 3) (mx := 3) (p := 8) (args := [.int (Int32.ofInt x0), .int (Int32.ofInt x1), .retAddr 100]) (rest := []) (al2 := [some (.int (Int32.ofInt x0)), some (.int (Int32.ofInt x1)), some (.retAddr 100)]) (S2 := q1.2) (by decide +kernel) rfl (by decide +kernel) rfl rfl rfl rfl rfl rfl (by omega) (fun d' hd' => de_288_r100 hz (by omega) w2) rfl ?_
  refine ds_pop (p := 9) (by decide +kernel) rfl rfl ?_
  have h := Option.some.inj h
  subst h
  exact ds_ret (by decide +kernel) rt_284
/-! java/lang/StringLatin1.charAt([BI)C d -/
theorem mx_286 : iv_mx 286 = 2 := by decide +kernel
theorem rt_286 : iv_rt 286 = some .char := by decide +kernel
def dm_286 (x0 : Nat) (x1 : Int) (s : gx_S) (δ : dS) : Option (Int × DS) :=
  if dA δ 3 x0 then (
  (dm_284 x1 ((δ.sh x0).2 : Int) s δ).bind fun q2 =>
  if dA q2.2 3 x0 then (
  if dI q2.2 x0 x1 then (
  if 0 ≤ (((Int32.ofInt ((Int32.ofInt (q2.2.I x0 ((x1).toNat)) &&& Int32.ofInt 255).toInt)).toUInt32 % 65536).toInt32).toInt ∧ (((Int32.ofInt ((Int32.ofInt (q2.2.I x0 ((x1).toNat)) &&& Int32.ofInt 255).toInt)).toUInt32 % 65536).toInt32).toInt ≤ 65535 then (
  some ((((Int32.ofInt ((Int32.ofInt (q2.2.I x0 ((x1).toNat)) &&& Int32.ofInt 255).toInt)).toUInt32 % 65536).toInt32).toInt, q2.1, q2.2)) else none) else none) else none) else none
theorem de_286 {z : iv_Z} {L : Nat} {xs : Nat → Int32} (hz : dZ z L xs) {d : Nat} (hd : 2 ≤ d) {x0 : Nat} {x1 : Int} {s : gx_S} {δ : dS} {q : Int × DS} (h : dm_286 x0 x1 s δ = some q) : dE z 286 d 0 [some (.ref x0), some (.int (Int32.ofInt x1))] [] (s, δ) (some (.int (Int32.ofInt q.1))) q.2 := by
  unfold dm_286 at h
  refine ds_iload_n (k := 1) (p := 1) (by decide +kernel) rfl rfl ?_
  refine ds_aload_n (k := 0) (p := 2) (by decide +kernel) rfl rfl ?_
  obtain ⟨z1, h⟩ := fx_gd h
  refine ds_alen (t := 3) (p := 3) (by decide +kernel) rfl z1 (by decide) ?_
  obtain ⟨q2, w3, h⟩ := fx_bd h
  refine ds_callS (idx := 9) (mj := 284) (na := 2) (mx := 2) (p := 6) (args := [.int (Int32.ofInt x1), .int (Int32.ofInt ((δ.sh x0).2 : Int))]) (rest := []) (al2 := [some (.int (Int32.ofInt x1)), some (.int (Int32.ofInt ((δ.sh x0).2 : Int)))]) (S2 := q2) (by decide +kernel) rfl (by decide +kernel) rfl rfl rfl rfl rfl rfl (by omega) (fun d' hd' => de_284 hz (by omega) w3) rfl ?_
  refine ds_aload_n (k := 0) (p := 7) (by decide +kernel) rfl rfl ?_
  refine ds_iload_n (k := 1) (p := 8) (by decide +kernel) rfl rfl ?_
  obtain ⟨z4, h⟩ := fx_gd h
  obtain ⟨z5, h⟩ := fx_gd h
  refine ds_baload3 (p := 9) (by decide +kernel) rfl z4 z5 ?_
  refine ds_sipush (n := 255) (p := 12) (by decide +kernel) rfl dks_255 ?_
  refine ds_iand (p := 13) (c := Int32.ofInt (Int32.ofInt (q2.2.I x0 ((x1).toNat)) &&& Int32.ofInt 255).toInt) (by decide +kernel) rfl (Int32.ofInt_toInt _).symm ?_
  refine ds_i2c (p := 14) (c := Int32.ofInt (((Int32.ofInt ((Int32.ofInt (q2.2.I x0 ((x1).toNat)) &&& Int32.ofInt 255).toInt)).toUInt32 % 65536).toInt32).toInt) (by decide +kernel) rfl (Int32.ofInt_toInt _).symm ?_
  obtain ⟨z6, h⟩ := fx_gd h
  have h := Option.some.inj h
  subst h
  exact ds_iret (by decide +kernel) rt_286 (dok_c z6)
/-! java/lang/String.charAt(I)C d -/
theorem mx_279 : iv_mx 279 = 2 := by decide +kernel
theorem rt_279 : iv_rt 279 = some .char := by decide +kernel
def dm_279 (x0 : Nat) (x1 : Int) (s : gx_S) (δ : dS) : Option (Int × DS) :=
  if dO δ x0 12 then (
  (dm_283 x0 s δ).bind fun q1 =>
  if (-2147483648 ≤ q1.1 ∧ q1.1 ≤ 2147483647) then (
  if q1.1 = 0 then (
    none) else (
    if dO q1.2.2 x0 12 then (
    (q1.2.2.P x0 0).bind fun v10 =>
    (dm_286 v10 x1 q1.2.1 q1.2.2).bind fun q12 =>
    if 0 ≤ q12.1 ∧ q12.1 ≤ 65535 then (
    some (q12.1, q12.2.1, q12.2.2)) else none) else none)) else none) else none
theorem de_279 {z : iv_Z} {L : Nat} {xs : Nat → Int32} (hz : dZ z L xs) {d : Nat} (hd : 3 ≤ d) {x0 : Nat} {x1 : Int} {s : gx_S} {δ : dS} {q : Int × DS} (h : dm_279 x0 x1 s δ = some q) : dE z 279 d 0 [some (.ref x0), some (.int (Int32.ofInt x1))] [] (s, δ) (some (.int (Int32.ofInt q.1))) q.2 := by
  unfold dm_279 at h
  refine ds_aload_n (k := 0) (p := 1) (by decide +kernel) rfl rfl ?_
  obtain ⟨z3, h⟩ := fx_gd h
  obtain ⟨q1, w2, h⟩ := fx_bd h
  refine ds_callV (idx := 492) (mj := 283) (ci := 12) (na := 0) (mx := 1) (p := 4) (args := [.ref x0]) (rest := []) (al2 := [some (.ref x0)]) (S2 := q1.2) (by decide +kernel) rfl (by decide +kernel) (Or.inl ⟨_, rfl, Or.inl z3⟩) rfl rfl rfl rfl rfl rfl (by omega) (fun d' hd' => de_283 hz (by omega) w2) rfl ?_
  obtain ⟨z4, h⟩ := fx_gd h
  by_cases c5 : q1.1 = 0
  · rw [if_pos c5] at h
    refine ds_if_eq_t (off := 12) (t := 16) (by decide +kernel) (by decide +kernel) ((gc_eq rfl rfl z4 (by decide)).mpr c5) ?_
    exact fx_no h
  · rw [if_neg c5] at h
    refine ds_if_eq_f (off := 12) (t := 16) (p := 7) (by decide +kernel) (by decide +kernel) rfl (fun q => c5 ((gc_eq rfl rfl z4 (by decide)).mp q)) ?_
    refine ds_aload_n (k := 0) (p := 8) (by decide +kernel) rfl rfl ?_
    obtain ⟨z9, h⟩ := fx_gd h
    obtain ⟨v10, w11, h⟩ := fx_bd h
    refine ds_gfr (idx := 9) (ci := 12) (j := 0) (p := 11) (by decide +kernel) rfl (by decide +kernel) z9 w11 ?_
    refine ds_iload_n (k := 1) (p := 12) (by decide +kernel) rfl rfl ?_
    obtain ⟨q12, w13, h⟩ := fx_bd h
    refine ds_callS (idx := 495) (mj := 286) (na := 2) (mx := 2) (p := 15) (args := [.ref v10, .int (Int32.ofInt x1)]) (rest := []) (al2 := [some (.ref v10), some (.int (Int32.ofInt x1))]) (S2 := q12.2) (by decide +kernel) rfl (by decide +kernel) rfl rfl rfl rfl rfl rfl (by omega) (fun d' hd' => de_286 hz (by omega) w13) rfl ?_
    obtain ⟨z14, h⟩ := fx_gd h
    have h := Option.some.inj h
    subst h
    exact ds_iret (by decide +kernel) rt_279 (dok_c z14)
/-! ZoneSharesLaw.text(LZoneShares;Ljava/lang/String;)I c d -/
theorem mx_237 : iv_mx 237 = 5 := by decide +kernel
theorem rt_237 : iv_rt 237 = some .int := by decide +kernel
def dm_237_102 (L : Nat) (xs : Nat → Int32) (k_6 : Nat → Nat → Int → gx_S → dS → Option (Int × DS)) (x1 : Nat) (x2 : Nat) (x3 : Int) (s : gx_S) (δ : dS) : Option (Int × DS) :=
  k_6 x1 x2 (x3 + 1) s δ
theorem de_237_102 {z : iv_Z} {L : Nat} {xs : Nat → Int32} (hz : dZ z L xs) {d : Nat} (hd : 4 ≤ d) {k_6 : Nat → Nat → Int → gx_S → dS → Option (Int × DS)} (hk_6 : ∀ (x1 : Nat) (x2 : Nat) (x3 : Int) (o4 : Option Value) (s : gx_S) (δ : dS) (q : Int × DS), k_6 x1 x2 x3 s δ = some q → dE z 237 d 6 [some (.ref 0), some (.ref x1), some (.ref x2), some (.int (Int32.ofInt x3)), o4] [] (s, δ) (some (.int (Int32.ofInt q.1))) q.2) (x1 : Nat) (x2 : Nat) (x3 : Int) (o4 : Option Value) (s : gx_S) (δ : dS) (q : Int × DS) (h : dm_237_102 L xs k_6  x1 x2 x3 s δ = some q) : dE z 237 d 102 [some (.ref 0), some (.ref x1), some (.ref x2), some (.int (Int32.ofInt x3)), o4] [] (s, δ) (some (.int (Int32.ofInt q.1))) q.2 := by
  unfold dm_237_102 at h
  refine ds_iinc (k := 3) (n := 1) (p := 105) (M := 5) (y := Int32.ofInt (x3 + 1)) (al' := [some (.ref 0), some (.ref x1), some (.ref x2), some (.int (Int32.ofInt (x3 + 1))), o4]) (by decide +kernel) rfl rfl mx_237 rfl rfl (ga_add rfl rfl) rfl ?_
  refine ds_goto (off := -99) (p := 6) (by decide +kernel) (by decide +kernel) ?_
  exact hk_6 _ _ _ _ _ _ _ h
def dm_237_85 (L : Nat) (xs : Nat → Int32) (k_6 : Nat → Nat → Int → gx_S → dS → Option (Int × DS)) : Nat → Nat → Nat → Int → Int → gx_S → dS → Option (Int × DS)
  | 0, _, _, _, _, _, _ => none
  | n + 1, x1, x2, x3, x4, s, δ =>
    if (-2147483648 ≤ x4 ∧ x4 ≤ 2147483647) then (
    if 5 ≤ x4 then (
      dm_237_102 L xs k_6 x1 x2 x3 s δ) else (
      if dA δ 0 x2 then (
      if dI δ x2 x4 then (
      (some (δ.w x2 ((x4).toNat) 0)).bind fun t5 =>
      dm_237_85 L xs k_6 n x1 x2 x3 (x4 + 1) s t5) else none) else none)) else none
theorem de_237_85 {z : iv_Z} {L : Nat} {xs : Nat → Int32} (hz : dZ z L xs) {d : Nat} (hd : 4 ≤ d) {k_6 : Nat → Nat → Int → gx_S → dS → Option (Int × DS)} (hk_6 : ∀ (x1 : Nat) (x2 : Nat) (x3 : Int) (o4 : Option Value) (s : gx_S) (δ : dS) (q : Int × DS), k_6 x1 x2 x3 s δ = some q → dE z 237 d 6 [some (.ref 0), some (.ref x1), some (.ref x2), some (.int (Int32.ofInt x3)), o4] [] (s, δ) (some (.int (Int32.ofInt q.1))) q.2) : ∀ (n : Nat) (x1 : Nat) (x2 : Nat) (x3 : Int) (x4 : Int) (s : gx_S) (δ : dS) (q : Int × DS), dm_237_85 L xs k_6 n x1 x2 x3 x4 s δ = some q → dE z 237 d 85 [some (.ref 0), some (.ref x1), some (.ref x2), some (.int (Int32.ofInt x3)), some (.int (Int32.ofInt x4))] [] (s, δ) (some (.int (Int32.ofInt q.1))) q.2 := by
  intro n
  induction n with
  | zero =>
    intro x1 x2 x3 x4 s δ q h
    rw [dm_237_85] at h
    exact fx_no h
  | succ n ih =>
    intro x1 x2 x3 x4 s δ q h
    rw [dm_237_85] at h
    refine ds_iload (k := 4) (p := 87) (by decide +kernel) rfl rfl ?_
    refine ds_iconst (n := 5) (p := 88) (by decide +kernel) rfl rfl ?_
    obtain ⟨z1, h⟩ := fx_gd h
    by_cases c2 : 5 ≤ x4
    · rw [if_pos c2] at h
      refine ds_icmp_ge_t (off := 14) (t := 102) (by decide +kernel) (by decide +kernel) ((gc_le rfl rfl (by decide) z1).mpr c2) ?_
      exact de_237_102 hz hd hk_6 _ _ _ _ _ _ _ h
    · rw [if_neg c2] at h
      refine ds_icmp_ge_f (off := 14) (t := 102) (p := 91) (by decide +kernel) (by decide +kernel) rfl (fun q => c2 ((gc_le rfl rfl (by decide) z1).mp q)) ?_
      refine ds_aload_n (k := 2) (p := 92) (by decide +kernel) rfl rfl ?_
      refine ds_iload (k := 4) (p := 94) (by decide +kernel) rfl rfl ?_
      refine ds_iconst (n := 0) (p := 95) (by decide +kernel) rfl rfl ?_
      obtain ⟨z3, h⟩ := fx_gd h
      obtain ⟨z4, h⟩ := fx_gd h
      obtain ⟨t5, w6, h⟩ := fx_bd h
      refine ds_iastore (p := 96) (by decide +kernel) rfl z3 z4 ?_
      rw [Option.some.inj w6]
      refine ds_iinc (k := 4) (n := 1) (p := 99) (M := 5) (y := Int32.ofInt (x4 + 1)) (al' := [some (.ref 0), some (.ref x1), some (.ref x2), some (.int (Int32.ofInt x3)), some (.int (Int32.ofInt (x4 + 1)))]) (by decide +kernel) rfl rfl mx_237 rfl rfl (ga_add rfl rfl) rfl ?_
      refine ds_goto (off := -14) (p := 85) (by decide +kernel) (by decide +kernel) ?_
      exact ih _ _ _ _ _ _ _ h
def dm_237_62 (L : Nat) (xs : Nat → Int32) (k_6 : Nat → Nat → Int → gx_S → dS → Option (Int × DS)) (x1 : Nat) (x2 : Nat) (x3 : Int) (s : gx_S) (δ : dS) : Option (Int × DS) :=
  if dA δ 0 x2 then (
  if dI δ x2 0 then (
  if dI δ x2 1 then (
  if dI δ x2 2 then (
  if dI δ x2 3 then (
  if dI δ x2 4 then (
  (gm_85 (δ.I x2 ((0 : Int).toNat)) (δ.I x2 ((1 : Int).toNat)) (δ.I x2 ((2 : Int).toNat)) (δ.I x2 ((3 : Int).toNat)) (δ.I x2 ((4 : Int).toNat)) s).bind fun q7 =>
  dm_237_85 L xs k_6 100000 x1 x2 x3 0 q7.2 δ) else none) else none) else none) else none) else none) else none
theorem de_237_62 {z : iv_Z} {L : Nat} {xs : Nat → Int32} (hz : dZ z L xs) {d : Nat} (hd : 4 ≤ d) {k_6 : Nat → Nat → Int → gx_S → dS → Option (Int × DS)} (hk_6 : ∀ (x1 : Nat) (x2 : Nat) (x3 : Int) (o4 : Option Value) (s : gx_S) (δ : dS) (q : Int × DS), k_6 x1 x2 x3 s δ = some q → dE z 237 d 6 [some (.ref 0), some (.ref x1), some (.ref x2), some (.int (Int32.ofInt x3)), o4] [] (s, δ) (some (.int (Int32.ofInt q.1))) q.2) (x1 : Nat) (x2 : Nat) (x3 : Int) (o4 : Option Value) (s : gx_S) (δ : dS) (q : Int × DS) (h : dm_237_62 L xs k_6  x1 x2 x3 s δ = some q) : dE z 237 d 62 [some (.ref 0), some (.ref x1), some (.ref x2), some (.int (Int32.ofInt x3)), o4] [] (s, δ) (some (.int (Int32.ofInt q.1))) q.2 := by
  unfold dm_237_62 at h
  refine ds_aload_n (k := 0) (p := 63) (by decide +kernel) rfl rfl ?_
  refine ds_aload_n (k := 2) (p := 64) (by decide +kernel) rfl rfl ?_
  refine ds_iconst (n := 0) (p := 65) (by decide +kernel) rfl rfl ?_
  obtain ⟨z1, h⟩ := fx_gd h
  obtain ⟨z2, h⟩ := fx_gd h
  refine ds_iaload (p := 66) (by decide +kernel) rfl z1 z2 ?_
  refine ds_aload_n (k := 2) (p := 67) (by decide +kernel) rfl rfl ?_
  refine ds_iconst (n := 1) (p := 68) (by decide +kernel) rfl rfl ?_
  obtain ⟨z3, h⟩ := fx_gd h
  refine ds_iaload (p := 69) (by decide +kernel) rfl z1 z3 ?_
  refine ds_aload_n (k := 2) (p := 70) (by decide +kernel) rfl rfl ?_
  refine ds_iconst (n := 2) (p := 71) (by decide +kernel) rfl rfl ?_
  obtain ⟨z4, h⟩ := fx_gd h
  refine ds_iaload (p := 72) (by decide +kernel) rfl z1 z4 ?_
  refine ds_aload_n (k := 2) (p := 73) (by decide +kernel) rfl rfl ?_
  refine ds_iconst (n := 3) (p := 74) (by decide +kernel) rfl rfl ?_
  obtain ⟨z5, h⟩ := fx_gd h
  refine ds_iaload (p := 75) (by decide +kernel) rfl z1 z5 ?_
  refine ds_aload_n (k := 2) (p := 76) (by decide +kernel) rfl rfl ?_
  refine ds_iconst (n := 4) (p := 77) (by decide +kernel) rfl rfl ?_
  obtain ⟨z6, h⟩ := fx_gd h
  refine ds_iaload (p := 78) (by decide +kernel) rfl z1 z6 ?_
  obtain ⟨q7, w8, h⟩ := fx_bd h
  refine ds_callV (idx := 17) (mj := 85) (ci := 9) (na := 5) (mx := 6) (p := 81) (args := [.ref 0, .int (Int32.ofInt (δ.I x2 ((0 : Int).toNat))), .int (Int32.ofInt (δ.I x2 ((1 : Int).toNat))), .int (Int32.ofInt (δ.I x2 ((2 : Int).toNat))), .int (Int32.ofInt (δ.I x2 ((3 : Int).toNat))), .int (Int32.ofInt (δ.I x2 ((4 : Int).toNat)))]) (rest := []) (al2 := [some (.ref 0), some (.int (Int32.ofInt (δ.I x2 ((0 : Int).toNat)))), some (.int (Int32.ofInt (δ.I x2 ((1 : Int).toNat)))), some (.int (Int32.ofInt (δ.I x2 ((2 : Int).toNat)))), some (.int (Int32.ofInt (δ.I x2 ((3 : Int).toNat)))), some (.int (Int32.ofInt (δ.I x2 ((4 : Int).toNat))))]) (S2 := (q7.2, δ)) (by decide +kernel) rfl (by decide +kernel) (Or.inl ⟨_, rfl, Or.inr fo_0⟩) rfl rfl rfl rfl rfl rfl (by omega) (fun d' hd' => dx_cls (fe_85 (by omega) (gf_85 rfl rfl rfl rfl rfl rfl w8))) rfl ?_
  refine ds_pop (p := 82) (by decide +kernel) rfl rfl ?_
  refine ds_iconst (n := 0) (p := 83) (by decide +kernel) rfl rfl ?_
  refine ds_istore (k := 4) (p := 85) (M := 5) (al' := [some (.ref 0), some (.ref x1), some (.ref x2), some (.int (Int32.ofInt x3)), some (.int (Int32.ofInt 0))]) (by decide +kernel) rfl mx_237 rfl rfl ?_
  exact de_237_85 hz hd hk_6 100000 _ _ _ _ _ _ _ h
def dm_237_6 (L : Nat) (xs : Nat → Int32) : Nat → Nat → Nat → Int → gx_S → dS → Option (Int × DS)
  | 0, _, _, _, _, _ => none
  | n + 1, x1, x2, x3, s, δ =>
    if dO δ x1 12 then (
    (dm_278 x1 s δ).bind fun q1 =>
    if (-2147483648 ≤ x3 ∧ x3 ≤ 2147483647) then (
    if (-2147483648 ≤ q1.1 ∧ q1.1 ≤ 2147483647) then (
    if q1.1 ≤ x3 then (
      if dO q1.2.2 x1 12 then (
      (dm_278 x1 q1.2.1 q1.2.2).bind fun q7 =>
      (gm_86 q7.1 q7.2.1).bind fun q10 =>
      some (q10.1, q10.2, q7.2.2)) else none) else (
      if 0 ≤ x3 ∧ x3 ≤ 2147483647 then (
      if 0 ≤ (x3 % 20) ∧ (x3 % 20) ≤ 2147483647 then (
      if dA q1.2.2 0 x2 then (
      if dI q1.2.2 x2 ((x3 % 20) / 4) then (
      if dO q1.2.2 x1 12 then (
      (dm_279 x1 x3 q1.2.1 q1.2.2).bind fun q16 =>
      if dA q16.2.2 0 x2 then (
      if dI q16.2.2 x2 ((x3 % 20) / 4) then (
      (some (q16.2.2.w x2 ((((x3 % 20) / 4)).toNat) ((Int32.ofInt (q1.2.2.I x2 ((((x3 % 20) / 4)).toNat)) ||| Int32.ofInt ((Int32.ofInt q16.1 <<< (Int32.ofInt (24 - (8 * (x3 % 4))) &&& 31)).toInt)).toInt))).bind fun t21 =>
      if (-2147483648 ≤ (x3 % 20) ∧ (x3 % 20) ≤ 2147483647) then (
      if 19 ≤ (x3 % 20) then (
        dm_237_62 L xs (dm_237_6 L xs n) x1 x2 x3 q16.2.1 t21) else (
        if dO t21 x1 12 then (
        (dm_278 x1 q16.2.1 t21).bind fun q25 =>
        if (-2147483648 ≤ (x3 + 1) ∧ (x3 + 1) ≤ 2147483647) then (
        if (-2147483648 ≤ q25.1 ∧ q25.1 ≤ 2147483647) then (
        if q25.1 ≤ (x3 + 1) then (
          dm_237_62 L xs (dm_237_6 L xs n) x1 x2 x3 q25.2.1 q25.2.2) else (
          dm_237_102 L xs (dm_237_6 L xs n) x1 x2 x3 q25.2.1 q25.2.2)) else none) else none) else none)) else none) else none) else none) else none) else none) else none) else none) else none)) else none) else none) else none
theorem de_237_6 {z : iv_Z} {L : Nat} {xs : Nat → Int32} (hz : dZ z L xs) {d : Nat} (hd : 4 ≤ d) : ∀ (n : Nat) (x1 : Nat) (x2 : Nat) (x3 : Int) (o4 : Option Value) (s : gx_S) (δ : dS) (q : Int × DS), dm_237_6 L xs n x1 x2 x3 s δ = some q → dE z 237 d 6 [some (.ref 0), some (.ref x1), some (.ref x2), some (.int (Int32.ofInt x3)), o4] [] (s, δ) (some (.int (Int32.ofInt q.1))) q.2 := by
  intro n
  induction n with
  | zero =>
    intro x1 x2 x3 o4 s δ q h
    rw [dm_237_6] at h
    exact fx_no h
  | succ n ih =>
    intro x1 x2 x3 o4 s δ q h
    rw [dm_237_6] at h
    refine ds_iload_n (k := 3) (p := 7) (by decide +kernel) rfl rfl ?_
    refine ds_aload_n (k := 1) (p := 8) (by decide +kernel) rfl rfl ?_
    obtain ⟨z3, h⟩ := fx_gd h
    obtain ⟨q1, w2, h⟩ := fx_bd h
    refine ds_callV (idx := 7) (mj := 278) (ci := 12) (na := 0) (mx := 1) (p := 11) (args := [.ref x1]) (rest := [.int (Int32.ofInt x3)]) (al2 := [some (.ref x1)]) (S2 := q1.2) (by decide +kernel) rfl (by decide +kernel) (Or.inl ⟨_, rfl, Or.inl z3⟩) rfl rfl rfl rfl rfl rfl (by omega) (fun d' hd' => de_278 hz (by omega) w2) rfl ?_
    obtain ⟨z4, h⟩ := fx_gd h
    obtain ⟨z5, h⟩ := fx_gd h
    by_cases c6 : q1.1 ≤ x3
    · rw [if_pos c6] at h
      refine ds_icmp_ge_t (off := 97) (t := 108) (by decide +kernel) (by decide +kernel) ((gc_le rfl rfl z5 z4).mpr c6) ?_
      refine ds_aload_n (k := 0) (p := 109) (by decide +kernel) rfl rfl ?_
      refine ds_aload_n (k := 1) (p := 110) (by decide +kernel) rfl rfl ?_
      obtain ⟨z9, h⟩ := fx_gd h
      obtain ⟨q7, w8, h⟩ := fx_bd h
      refine ds_callV (idx := 7) (mj := 278) (ci := 12) (na := 0) (mx := 1) (p := 113) (args := [.ref x1]) (rest := [.ref 0]) (al2 := [some (.ref x1)]) (S2 := q7.2) (by decide +kernel) rfl (by decide +kernel) (Or.inl ⟨_, rfl, Or.inl z9⟩) rfl rfl rfl rfl rfl rfl (by omega) (fun d' hd' => de_278 hz (by omega) w8) rfl ?_
      obtain ⟨q10, w11, h⟩ := fx_bd h
      refine ds_callV (idx := 23) (mj := 86) (ci := 9) (na := 1) (mx := 2) (p := 116) (args := [.ref 0, .int (Int32.ofInt q7.1)]) (rest := []) (al2 := [some (.ref 0), some (.int (Int32.ofInt q7.1))]) (S2 := (q10.2, q7.2.2)) (by decide +kernel) rfl (by decide +kernel) (Or.inl ⟨_, rfl, Or.inr fo_0⟩) rfl rfl rfl rfl rfl rfl (by omega) (fun d' hd' => dx_cls (fe_86 (by omega) (gf_86 rfl rfl w11))) rfl ?_
      have h := Option.some.inj h
      subst h
      exact ds_iret (by decide +kernel) rt_237 rfl
    · rw [if_neg c6] at h
      refine ds_icmp_ge_f (off := 97) (t := 108) (p := 14) (by decide +kernel) (by decide +kernel) rfl (fun q => c6 ((gc_le rfl rfl z5 z4).mp q)) ?_
      refine ds_aload_n (k := 2) (p := 15) (by decide +kernel) rfl rfl ?_
      refine ds_iload_n (k := 3) (p := 16) (by decide +kernel) rfl rfl ?_
      refine ds_bipush (n := 20) (p := 18) (by decide +kernel) rfl dkb_20 ?_
      obtain ⟨z12, h⟩ := fx_gd h
      refine ds_irem (p := 19) (c := Int32.ofInt (x3 % 20)) (by decide +kernel) rfl (gc_nz rfl (x := x3) ⟨z12.1, z12.2, by decide, by decide⟩) (ga_rem rfl rfl ⟨z12.1, z12.2, by decide, by decide⟩) ?_
      refine ds_iconst (n := 4) (p := 20) (by decide +kernel) rfl rfl ?_
      obtain ⟨z13, h⟩ := fx_gd h
      refine ds_idiv (p := 21) (c := Int32.ofInt ((x3 % 20) / 4)) (by decide +kernel) rfl (gc_nz rfl (x := (x3 % 20)) ⟨z13.1, z13.2, by decide, by decide⟩) (ga_div rfl rfl ⟨z13.1, z13.2, by decide, by decide⟩) ?_
      refine ds_dup2 (p := 22) (by decide +kernel) rfl rfl rfl ?_
      obtain ⟨z14, h⟩ := fx_gd h
      obtain ⟨z15, h⟩ := fx_gd h
      refine ds_iaload (p := 23) (by decide +kernel) rfl z14 z15 ?_
      refine ds_aload_n (k := 1) (p := 24) (by decide +kernel) rfl rfl ?_
      refine ds_iload_n (k := 3) (p := 25) (by decide +kernel) rfl rfl ?_
      obtain ⟨z18, h⟩ := fx_gd h
      obtain ⟨q16, w17, h⟩ := fx_bd h
      refine ds_callV (idx := 13) (mj := 279) (ci := 12) (na := 1) (mx := 2) (p := 28) (args := [.ref x1, .int (Int32.ofInt x3)]) (rest := [.int (Int32.ofInt (q1.2.2.I x2 ((((x3 % 20) / 4)).toNat))), .int (Int32.ofInt ((x3 % 20) / 4)), .ref x2]) (al2 := [some (.ref x1), some (.int (Int32.ofInt x3))]) (S2 := q16.2) (by decide +kernel) rfl (by decide +kernel) (Or.inl ⟨_, rfl, Or.inl z18⟩) rfl rfl rfl rfl rfl rfl (by omega) (fun d' hd' => de_279 hz (by omega) w17) rfl ?_
      refine ds_bipush (n := 24) (p := 30) (by decide +kernel) rfl dkb_24 ?_
      refine ds_bipush (n := 8) (p := 32) (by decide +kernel) rfl dkb_8 ?_
      refine ds_iload_n (k := 3) (p := 33) (by decide +kernel) rfl rfl ?_
      refine ds_iconst (n := 4) (p := 34) (by decide +kernel) rfl rfl ?_
      refine ds_irem (p := 35) (c := Int32.ofInt (x3 % 4)) (by decide +kernel) rfl (gc_nz rfl (x := x3) ⟨z12.1, z12.2, by decide, by decide⟩) (ga_rem rfl rfl ⟨z12.1, z12.2, by decide, by decide⟩) ?_
      refine ds_imul (p := 36) (c := Int32.ofInt (8 * (x3 % 4))) (by decide +kernel) rfl (ga_mul rfl rfl) ?_
      refine ds_isub (p := 37) (c := Int32.ofInt (24 - (8 * (x3 % 4)))) (by decide +kernel) rfl (ga_sub rfl rfl) ?_
      refine ds_ishl (p := 38) (c := Int32.ofInt (Int32.ofInt q16.1 <<< (Int32.ofInt (24 - (8 * (x3 % 4))) &&& 31)).toInt) (by decide +kernel) rfl (Int32.ofInt_toInt _).symm ?_
      refine ds_ior (p := 39) (c := Int32.ofInt (Int32.ofInt (q1.2.2.I x2 ((((x3 % 20) / 4)).toNat)) ||| Int32.ofInt ((Int32.ofInt q16.1 <<< (Int32.ofInt (24 - (8 * (x3 % 4))) &&& 31)).toInt)).toInt) (by decide +kernel) rfl (Int32.ofInt_toInt _).symm ?_
      obtain ⟨z19, h⟩ := fx_gd h
      obtain ⟨z20, h⟩ := fx_gd h
      obtain ⟨t21, w22, h⟩ := fx_bd h
      refine ds_iastore (p := 40) (by decide +kernel) rfl z19 z20 ?_
      rw [Option.some.inj w22]
      refine ds_iload_n (k := 3) (p := 41) (by decide +kernel) rfl rfl ?_
      refine ds_bipush (n := 20) (p := 43) (by decide +kernel) rfl dkb_20 ?_
      refine ds_irem (p := 44) (c := Int32.ofInt (x3 % 20)) (by decide +kernel) rfl (gc_nz rfl (x := x3) ⟨z12.1, z12.2, by decide, by decide⟩) (ga_rem rfl rfl ⟨z12.1, z12.2, by decide, by decide⟩) ?_
      refine ds_bipush (n := 19) (p := 46) (by decide +kernel) rfl dkb_19 ?_
      obtain ⟨z23, h⟩ := fx_gd h
      by_cases c24 : 19 ≤ (x3 % 20)
      · rw [if_pos c24] at h
        refine ds_icmp_ge_t (off := 16) (t := 62) (by decide +kernel) (by decide +kernel) ((gc_le rfl rfl (by decide) z23).mpr c24) ?_
        exact de_237_62 hz hd ih _ _ _ _ _ _ _ h
      · rw [if_neg c24] at h
        refine ds_icmp_ge_f (off := 16) (t := 62) (p := 49) (by decide +kernel) (by decide +kernel) rfl (fun q => c24 ((gc_le rfl rfl (by decide) z23).mp q)) ?_
        refine ds_iload_n (k := 3) (p := 50) (by decide +kernel) rfl rfl ?_
        refine ds_iconst (n := 1) (p := 51) (by decide +kernel) rfl rfl ?_
        refine ds_iadd (p := 52) (c := Int32.ofInt (x3 + 1)) (by decide +kernel) rfl (ga_add rfl rfl) ?_
        refine ds_aload_n (k := 1) (p := 53) (by decide +kernel) rfl rfl ?_
        obtain ⟨z27, h⟩ := fx_gd h
        obtain ⟨q25, w26, h⟩ := fx_bd h
        refine ds_callV (idx := 7) (mj := 278) (ci := 12) (na := 0) (mx := 1) (p := 56) (args := [.ref x1]) (rest := [.int (Int32.ofInt (x3 + 1))]) (al2 := [some (.ref x1)]) (S2 := q25.2) (by decide +kernel) rfl (by decide +kernel) (Or.inl ⟨_, rfl, Or.inl z27⟩) rfl rfl rfl rfl rfl rfl (by omega) (fun d' hd' => de_278 hz (by omega) w26) rfl ?_
        obtain ⟨z28, h⟩ := fx_gd h
        obtain ⟨z29, h⟩ := fx_gd h
        by_cases c30 : q25.1 ≤ (x3 + 1)
        · rw [if_pos c30] at h
          refine ds_icmp_ge_t (off := 6) (t := 62) (by decide +kernel) (by decide +kernel) ((gc_le rfl rfl z29 z28).mpr c30) ?_
          exact de_237_62 hz hd ih _ _ _ _ _ _ _ h
        · rw [if_neg c30] at h
          refine ds_icmp_ge_f (off := 6) (t := 62) (p := 59) (by decide +kernel) (by decide +kernel) rfl (fun q => c30 ((gc_le rfl rfl z29 z28).mp q)) ?_
          refine ds_goto (off := 43) (p := 102) (by decide +kernel) (by decide +kernel) ?_
          exact de_237_102 hz hd ih _ _ _ _ _ _ _ h
def dm_237 (L : Nat) (xs : Nat → Int32) (x1 : Nat) (s : gx_S) (δ : dS) : Option (Int × DS) :=
  if 0 ≤ (5 : Int) ∧ (5 : Int) ≤ 60000000 then (
  (some (δ.al 0 (5 : Int).toNat)).bind fun t2 =>
  dm_237_6 L xs 100000 x1 δ.n 0 s t2) else none
theorem de_237 {z : iv_Z} {L : Nat} {xs : Nat → Int32} (hz : dZ z L xs) {d : Nat} (hd : 4 ≤ d) {x1 : Nat} {s : gx_S} {δ : dS} {q : Int × DS} (h : dm_237 L xs x1 s δ = some q) : dE z 237 d 0 [some (.ref 0), some (.ref x1), none, none, none] [] (s, δ) (some (.int (Int32.ofInt q.1))) q.2 := by
  unfold dm_237 at h
  refine ds_iconst (n := 5) (p := 1) (by decide +kernel) rfl rfl ?_
  obtain ⟨z1, h⟩ := fx_gd h
  obtain ⟨t2, w3, h⟩ := fx_bd h
  refine ds_newarray (a := .int) (t := 0) (p := 3) (by decide +kernel) rfl (by decide +kernel) (by decide) z1 ?_
  rw [Option.some.inj w3]
  refine ds_astore_n (k := 2) (p := 4) (M := 5) (al' := [some (.ref 0), some (.ref x1), some (.ref δ.n), none, none]) (by decide +kernel) rfl mx_237 rfl rfl ?_
  refine ds_iconst (n := 0) (p := 5) (by decide +kernel) rfl rfl ?_
  refine ds_istore_n (k := 3) (p := 6) (M := 5) (al' := [some (.ref 0), some (.ref x1), some (.ref δ.n), some (.int (Int32.ofInt 0)), none]) (by decide +kernel) rfl mx_237 rfl rfl ?_
  exact de_237_6 hz hd 100000 _ _ _ _ _ _ _ h
/-! ZoneSharesLaw.at([II)I s -/
theorem mx_238 : iv_mx 238 = 2 := by decide +kernel
theorem rt_238 : iv_rt 238 = some .int := by decide +kernel
def dm_238 (L : Nat) (xs : Nat → Int32) (x1 : Int) (s : gx_S) (δ : dS) : Option (Int × DS) :=
  if (-2147483648 ≤ (L : Int) ∧ (L : Int) ≤ 2147483647) then (
  if (L : Int) ≤ 1 then (
    some ((Int32.ofInt (7919 * x1) &&& Int32.ofInt 2147483647).toInt, s, δ)) else (
    if 0 ≤ x1 ∧ x1 ≤ 2147483647 ∧ 0 < ((L : Int) - 1) ∧ ((L : Int) - 1) ≤ 2147483647 then (
    if 0 ≤ ((x1 % ((L : Int) - 1)) + 1) ∧ ((x1 % ((L : Int) - 1)) + 1) < (L : Int) then (
    some ((Int32.ofInt ((xs ((((x1 % ((L : Int) - 1)) + 1)).toNat)).toInt) &&& Int32.ofInt 2147483647).toInt, s, δ)) else none) else none)) else none
theorem de_238 {z : iv_Z} {L : Nat} {xs : Nat → Int32} (hz : dZ z L xs) {d : Nat} (hd : 0 ≤ d) {x1 : Int} {s : gx_S} {δ : dS} {q : Int × DS} (h : dm_238 L xs x1 s δ = some q) : dE z 238 d 0 [some (.retAddr 0), some (.int (Int32.ofInt x1))] [] (s, δ) (some (.int (Int32.ofInt q.1))) q.2 := by
  unfold dm_238 at h
  refine ds_aload_n_a (k := 0) (p := 1) (by decide +kernel) rfl rfl ?_
  refine ds_alen_a (m := (L : Int)) (p := 2) (by decide +kernel) rfl (dz_a0 hz) rfl ?_
  refine ds_iconst (n := 1) (p := 3) (by decide +kernel) rfl rfl ?_
  obtain ⟨z1, h⟩ := fx_gd h
  by_cases c2 : (L : Int) ≤ 1
  · rw [if_pos c2] at h
    refine ds_icmp_le_t (off := 19) (t := 22) (by decide +kernel) (by decide +kernel) ((gc_le rfl rfl z1 (by decide)).mpr c2) ?_
    refine ds_sipush (n := 7919) (p := 25) (by decide +kernel) rfl dks_7919 ?_
    refine ds_iload_n (k := 1) (p := 26) (by decide +kernel) rfl rfl ?_
    refine ds_imul (p := 27) (c := Int32.ofInt (7919 * x1)) (by decide +kernel) rfl (ga_mul rfl rfl) ?_
    refine ds_ldc (idx := 27) (p := 29) (x := Int32.ofInt 2147483647) (by decide +kernel) rfl (by decide +kernel) ?_
    refine ds_iand (p := 30) (c := Int32.ofInt (Int32.ofInt (7919 * x1) &&& Int32.ofInt 2147483647).toInt) (by decide +kernel) rfl (Int32.ofInt_toInt _).symm ?_
    have h := Option.some.inj h
    subst h
    exact ds_iret (by decide +kernel) rt_238 rfl
  · rw [if_neg c2] at h
    refine ds_icmp_le_f (off := 19) (t := 22) (p := 6) (by decide +kernel) (by decide +kernel) rfl (fun q => c2 ((gc_le rfl rfl z1 (by decide)).mp q)) ?_
    refine ds_aload_n_a (k := 0) (p := 7) (by decide +kernel) rfl rfl ?_
    refine ds_iload_n (k := 1) (p := 8) (by decide +kernel) rfl rfl ?_
    refine ds_aload_n_a (k := 0) (p := 9) (by decide +kernel) rfl rfl ?_
    refine ds_alen_a (m := (L : Int)) (p := 10) (by decide +kernel) rfl (dz_a0 hz) rfl ?_
    refine ds_iconst (n := 1) (p := 11) (by decide +kernel) rfl rfl ?_
    refine ds_isub (p := 12) (c := Int32.ofInt ((L : Int) - 1)) (by decide +kernel) rfl (ga_sub rfl rfl) ?_
    obtain ⟨z3, h⟩ := fx_gd h
    refine ds_irem (p := 13) (c := Int32.ofInt (x1 % ((L : Int) - 1))) (by decide +kernel) rfl (gc_nz rfl (x := x1) z3) (ga_rem rfl rfl z3) ?_
    refine ds_iconst (n := 1) (p := 14) (by decide +kernel) rfl rfl ?_
    refine ds_iadd (p := 15) (c := Int32.ofInt ((x1 % ((L : Int) - 1)) + 1)) (by decide +kernel) rfl (ga_add rfl rfl) ?_
    obtain ⟨z4, h⟩ := fx_gd h
    refine ds_iaload_a (p := 16) (by decide +kernel) rfl (dz_a0 hz) (dz_n0 hz) z4 ?_
    refine ds_ldc (idx := 27) (p := 18) (x := Int32.ofInt 2147483647) (by decide +kernel) rfl (by decide +kernel) ?_
    refine ds_iand (p := 19) (c := Int32.ofInt (Int32.ofInt ((xs ((((x1 % ((L : Int) - 1)) + 1)).toNat)).toInt) &&& Int32.ofInt 2147483647).toInt) (by decide +kernel) rfl (Int32.ofInt_toInt _).symm ?_
    refine ds_goto (off := 11) (p := 30) (by decide +kernel) (by decide +kernel) ?_
    have h := Option.some.inj h
    subst h
    exact ds_iret (by decide +kernel) rt_238 rfl
/-! java/lang/AbstractStringBuilder.<init>(I)V d -/
theorem mx_263 : iv_mx 263 = 2 := by decide +kernel
theorem rt_263 : iv_rt 263 = none := by decide +kernel
def dm_263 (x0 : Nat) (x1 : Int) (s : gx_S) (δ : dS) : Option (DS) :=
  if 0 ≤ x1 ∧ x1 ≤ 60000000 then (
  (some (δ.al 3 (x1).toNat)).bind fun t2 =>
  if dO t2 x0 11 then (
  (some (t2.r x0 0 (some δ.n))).bind fun t5 =>
  if dO t5 x0 11 then (
  (some (t5.w x0 1 0)).bind fun t8 =>
  some (s, t8)) else none) else none) else none
theorem de_263 {z : iv_Z} {L : Nat} {xs : Nat → Int32} (hz : dZ z L xs) {d : Nat} (hd : 0 ≤ d) {x0 : Nat} {x1 : Int} {s : gx_S} {δ : dS} {q : DS} (h : dm_263 x0 x1 s δ = some q) : dE z 263 d 0 [some (.ref x0), some (.int (Int32.ofInt x1))] [] (s, δ) none q := by
  unfold dm_263 at h
  refine ds_aload_n (k := 0) (p := 1) (by decide +kernel) rfl rfl ?_
  refine ds_oinit (idx := 3) (p := 4) (by decide +kernel) rfl (by decide +kernel) rfl ?_
  refine ds_gets0 (idx := 18) (p := 7) (by decide +kernel) rfl (by decide +kernel) ?_
  refine ds_if_eq_f (off := 18) (t := 25) (p := 10) (by decide +kernel) (by decide +kernel) rfl (fun q => absurd ((gc_eq (x := 1) (y := 0) rfl rfl (by decide) (by decide)).mp q) (by decide)) ?_
  refine ds_aload_n (k := 0) (p := 11) (by decide +kernel) rfl rfl ?_
  refine ds_iload_n (k := 1) (p := 12) (by decide +kernel) rfl rfl ?_
  obtain ⟨z1, h⟩ := fx_gd h
  obtain ⟨t2, w3, h⟩ := fx_bd h
  refine ds_newarray (a := .byte) (t := 3) (p := 14) (by decide +kernel) rfl (by decide +kernel) (by decide) z1 ?_
  rw [Option.some.inj w3]
  obtain ⟨z4, h⟩ := fx_gd h
  obtain ⟨t5, w6, h⟩ := fx_bd h
  refine ds_pfr (idx := 15) (ci := 11) (j := 0) (p := 17) (by decide +kernel) rfl (by decide +kernel) (by decide +kernel) z4 (dok_r (by decide +kernel)) ?_
  rw [Option.some.inj w6]
  refine ds_aload_n (k := 0) (p := 18) (by decide +kernel) rfl rfl ?_
  refine ds_iconst (n := 0) (p := 19) (by decide +kernel) rfl rfl ?_
  obtain ⟨z7, h⟩ := fx_gd h
  obtain ⟨t8, w9, h⟩ := fx_bd h
  refine ds_pfi (idx := 22) (ci := 11) (j := 1) (p := 22) (by decide +kernel) rfl (by decide +kernel) (by decide +kernel) z7 (by decide +kernel) ?_
  rw [Option.some.inj w9]
  refine ds_goto (off := 16) (p := 38) (by decide +kernel) (by decide +kernel) ?_
  have h := Option.some.inj h
  subst h
  exact ds_ret (by decide +kernel) rt_263
/-! java/lang/StringBuilder.<init>()V d -/
theorem mx_257 : iv_mx 257 = 1 := by decide +kernel
theorem rt_257 : iv_rt 257 = none := by decide +kernel
def dm_257 (x0 : Nat) (s : gx_S) (δ : dS) : Option (DS) :=
  if dO δ x0 11 then (
  (dm_263 x0 16 s δ).bind fun q1 =>
  some (q1.1, q1.2)) else none
theorem de_257 {z : iv_Z} {L : Nat} {xs : Nat → Int32} (hz : dZ z L xs) {d : Nat} (hd : 1 ≤ d) {x0 : Nat} {s : gx_S} {δ : dS} {q : DS} (h : dm_257 x0 s δ = some q) : dE z 257 d 0 [some (.ref x0)] [] (s, δ) none q := by
  unfold dm_257 at h
  refine ds_aload_n (k := 0) (p := 1) (by decide +kernel) rfl rfl ?_
  refine ds_bipush (n := 16) (p := 3) (by decide +kernel) rfl dkb_16 ?_
  obtain ⟨z3, h⟩ := fx_gd h
  obtain ⟨q1, w2, h⟩ := fx_bd h
  refine ds_callP (idx := 1) (mj := 263) (ci := 11) (na := 1) (mx := 2) (p := 6) (args := [.ref x0, .int (Int32.ofInt 16)]) (rest := []) (al2 := [some (.ref x0), some (.int (Int32.ofInt 16))]) (S2 := q1) (by decide +kernel) rfl (by decide +kernel) (Or.inl ⟨_, rfl, Or.inl z3⟩) rfl rfl rfl rfl rfl rfl (by omega) (fun d' hd' => de_263 hz (by omega) w2) rfl ?_
  have h := Option.some.inj h
  subst h
  exact ds_ret (by decide +kernel) rt_257
/-! java/lang/AbstractStringBuilder.getValue()[B d -/
theorem mx_273 : iv_mx 273 = 1 := by decide +kernel
def dm_273 (x0 : Nat) (s : gx_S) (δ : dS) : Option (Nat × DS) :=
  if dO δ x0 11 then (
  (δ.P x0 0).bind fun v2 =>
  some (v2, s, δ)) else none
theorem de_273 {z : iv_Z} {L : Nat} {xs : Nat → Int32} (hz : dZ z L xs) {d : Nat} (hd : 0 ≤ d) {x0 : Nat} {s : gx_S} {δ : dS} {q : Nat × DS} (h : dm_273 x0 s δ = some q) : dE z 273 d 0 [some (.ref x0)] [] (s, δ) (some (.ref q.1)) q.2 := by
  unfold dm_273 at h
  refine ds_aload_n (k := 0) (p := 1) (by decide +kernel) rfl rfl ?_
  obtain ⟨z1, h⟩ := fx_gd h
  obtain ⟨v2, w3, h⟩ := fx_bd h
  refine ds_gfr (idx := 15) (ci := 11) (j := 0) (p := 4) (by decide +kernel) rfl (by decide +kernel) z1 w3 ?_
  have h := Option.some.inj h
  subst h
  exact ds_aret (by decide +kernel) (by decide +kernel)
/-! java/lang/AbstractStringBuilder.length()I d -/
theorem mx_267 : iv_mx 267 = 1 := by decide +kernel
theorem rt_267 : iv_rt 267 = some .int := by decide +kernel
def dm_267 (x0 : Nat) (s : gx_S) (δ : dS) : Option (Int × DS) :=
  if dO δ x0 11 then (
  some ((δ.I x0 3), s, δ)) else none
theorem de_267 {z : iv_Z} {L : Nat} {xs : Nat → Int32} (hz : dZ z L xs) {d : Nat} (hd : 0 ≤ d) {x0 : Nat} {s : gx_S} {δ : dS} {q : Int × DS} (h : dm_267 x0 s δ = some q) : dE z 267 d 0 [some (.ref x0)] [] (s, δ) (some (.int (Int32.ofInt q.1))) q.2 := by
  unfold dm_267 at h
  refine ds_aload_n (k := 0) (p := 1) (by decide +kernel) rfl rfl ?_
  obtain ⟨z1, h⟩ := fx_gd h
  refine ds_gfi (idx := 79) (ci := 11) (j := 3) (p := 4) (by decide +kernel) rfl (by decide +kernel) z1 ?_
  have h := Option.some.inj h
  subst h
  exact ds_iret (by decide +kernel) rt_267 rfl
/-! java/lang/StringBuilder.length()I d -/
theorem mx_261 : iv_mx 261 = 1 := by decide +kernel
theorem rt_261 : iv_rt 261 = some .int := by decide +kernel
def dm_261 (x0 : Nat) (s : gx_S) (δ : dS) : Option (Int × DS) :=
  if dO δ x0 11 then (
  (dm_267 x0 s δ).bind fun q1 =>
  some (q1.1, q1.2.1, q1.2.2)) else none
theorem de_261 {z : iv_Z} {L : Nat} {xs : Nat → Int32} (hz : dZ z L xs) {d : Nat} (hd : 1 ≤ d) {x0 : Nat} {s : gx_S} {δ : dS} {q : Int × DS} (h : dm_261 x0 s δ = some q) : dE z 261 d 0 [some (.ref x0)] [] (s, δ) (some (.int (Int32.ofInt q.1))) q.2 := by
  unfold dm_261 at h
  refine ds_aload_n (k := 0) (p := 1) (by decide +kernel) rfl rfl ?_
  obtain ⟨z3, h⟩ := fx_gd h
  obtain ⟨q1, w2, h⟩ := fx_bd h
  refine ds_callP (idx := 343) (mj := 267) (ci := 11) (na := 0) (mx := 1) (p := 4) (args := [.ref x0]) (rest := []) (al2 := [some (.ref x0)]) (S2 := q1.2) (by decide +kernel) rfl (by decide +kernel) (Or.inl ⟨_, rfl, Or.inl z3⟩) rfl rfl rfl rfl rfl rfl (by omega) (fun d' hd' => de_267 hz (by omega) w2) rfl ?_
  have h := Option.some.inj h
  subst h
  exact ds_iret (by decide +kernel) rt_261 rfl
/-! java/lang/AbstractStringBuilder.isLatin1()Z d -/
theorem mx_270 : iv_mx 270 = 1 := by decide +kernel
theorem rt_270 : iv_rt 270 = some .boolean := by decide +kernel
def dm_270 (x0 : Nat) (s : gx_S) (δ : dS) : Option (Int × DS) :=
  if dO δ x0 11 then (
  if (-2147483648 ≤ (δ.I x0 1) ∧ (δ.I x0 1) ≤ 2147483647) then (
  if ¬ (δ.I x0 1) = 0 then (
    some (0, s, δ)) else (
    some (1, s, δ))) else none) else none
theorem de_270 {z : iv_Z} {L : Nat} {xs : Nat → Int32} (hz : dZ z L xs) {d : Nat} (hd : 0 ≤ d) {x0 : Nat} {s : gx_S} {δ : dS} {q : Int × DS} (h : dm_270 x0 s δ = some q) : dE z 270 d 0 [some (.ref x0)] [] (s, δ) (some (.int (Int32.ofInt q.1))) q.2 := by
  unfold dm_270 at h
  refine ds_gets0 (idx := 18) (p := 3) (by decide +kernel) rfl (by decide +kernel) ?_
  refine ds_if_eq_f (off := 14) (t := 17) (p := 6) (by decide +kernel) (by decide +kernel) rfl (fun q => absurd ((gc_eq (x := 1) (y := 0) rfl rfl (by decide) (by decide)).mp q) (by decide)) ?_
  refine ds_aload_n (k := 0) (p := 7) (by decide +kernel) rfl rfl ?_
  obtain ⟨z1, h⟩ := fx_gd h
  refine ds_gfi (idx := 22) (ci := 11) (j := 1) (p := 10) (by decide +kernel) rfl (by decide +kernel) z1 ?_
  obtain ⟨z2, h⟩ := fx_gd h
  by_cases c3 : ¬ (δ.I x0 1) = 0
  · rw [if_pos c3] at h
    refine ds_if_ne_t (off := 7) (t := 17) (by decide +kernel) (by decide +kernel) ((gc_ne rfl rfl z2 (by decide)).mpr c3) ?_
    refine ds_iconst (n := 0) (p := 18) (by decide +kernel) rfl rfl ?_
    have h := Option.some.inj h
    subst h
    exact ds_iret (by decide +kernel) rt_270 (by decide +kernel)
  · rw [if_neg c3] at h
    refine ds_if_ne_f (off := 7) (t := 17) (p := 13) (by decide +kernel) (by decide +kernel) rfl (fun q => c3 ((gc_ne rfl rfl z2 (by decide)).mp q)) ?_
    refine ds_iconst (n := 1) (p := 14) (by decide +kernel) rfl rfl ?_
    refine ds_goto (off := 4) (p := 18) (by decide +kernel) (by decide +kernel) ?_
    have h := Option.some.inj h
    subst h
    exact ds_iret (by decide +kernel) rt_270 (by decide +kernel)
/-! java/util/Arrays.checkLength(II)V  -/
theorem mx_292 : iv_mx 292 = 2 := by decide +kernel
theorem rt_292 : iv_rt 292 = none := by decide +kernel
def dm_292 (x0 : Int) (x1 : Int) (s : gx_S) (δ : dS) : Option (DS) :=
  if (-2147483648 ≤ x1 ∧ x1 ≤ 2147483647) then (
  if (-2147483648 ≤ x0 ∧ x0 ≤ 2147483647) then (
  if x0 ≤ x1 then (
    some (s, δ)) else (
    none)) else none) else none
theorem de_292 {z : iv_Z} {L : Nat} {xs : Nat → Int32} (hz : dZ z L xs) {d : Nat} (hd : 0 ≤ d) {x0 : Int} {x1 : Int} {s : gx_S} {δ : dS} {q : DS} (h : dm_292 x0 x1 s δ = some q) : dE z 292 d 0 [some (.int (Int32.ofInt x0)), some (.int (Int32.ofInt x1))] [] (s, δ) none q := by
  unfold dm_292 at h
  refine ds_iload_n (k := 1) (p := 1) (by decide +kernel) rfl rfl ?_
  refine ds_iload_n (k := 0) (p := 2) (by decide +kernel) rfl rfl ?_
  obtain ⟨z1, h⟩ := fx_gd h
  obtain ⟨z2, h⟩ := fx_gd h
  by_cases c3 : x0 ≤ x1
  · rw [if_pos c3] at h
    refine ds_icmp_ge_t (off := 35) (t := 37) (by decide +kernel) (by decide +kernel) ((gc_le rfl rfl z2 z1).mpr c3) ?_
    have h := Option.some.inj h
    subst h
    exact ds_ret (by decide +kernel) rt_292
  · rw [if_neg c3] at h
    refine ds_icmp_ge_f (off := 35) (t := 37) (p := 5) (by decide +kernel) (by decide +kernel) rfl (fun q => c3 ((gc_le rfl rfl z2 z1).mp q)) ?_
    exact fx_no h
/-! java/util/Arrays.copyOfRangeByte([BII)[B d -/
theorem mx_291 : iv_mx 291 = 5 := by decide +kernel
def dm_291 (x0 : Nat) (x1 : Int) (x2 : Int) (s : gx_S) (δ : dS) : Option (Nat × DS) :=
  (dm_292 x1 x2 s δ).bind fun q1 =>
  if 0 ≤ (x2 - x1) ∧ (x2 - x1) ≤ 60000000 then (
  (some (q1.2.al 3 ((x2 - x1)).toNat)).bind fun t4 =>
  if dA t4 3 x0 then (
  if (-2147483648 ≤ (((t4.sh x0).2 : Int) - x1) ∧ (((t4.sh x0).2 : Int) - x1) ≤ 2147483647) then (
  if (-2147483648 ≤ (x2 - x1) ∧ (x2 - x1) ≤ 2147483647) then (
  if dA t4 3 q1.2.n then (
  if 0 ≤ x1 ∧ 0 ≤ (0 : Int) ∧ 0 ≤ (if (x2 - x1) < (((t4.sh x0).2 : Int) - x1) then (x2 - x1) else (((t4.sh x0).2 : Int) - x1)) ∧ x1 + (if (x2 - x1) < (((t4.sh x0).2 : Int) - x1) then (x2 - x1) else (((t4.sh x0).2 : Int) - x1)) ≤ ((t4.sh x0).2 : Int) ∧ (0 : Int) + (if (x2 - x1) < (((t4.sh x0).2 : Int) - x1) then (x2 - x1) else (((t4.sh x0).2 : Int) - x1)) ≤ ((t4.sh q1.2.n).2 : Int) then (
  (some (t4.cp x0 ((x1).toNat) q1.2.n ((0 : Int).toNat) (((if (x2 - x1) < (((t4.sh x0).2 : Int) - x1) then (x2 - x1) else (((t4.sh x0).2 : Int) - x1))).toNat))).bind fun t11 =>
  some (q1.2.n, q1.1, t11)) else none) else none) else none) else none) else none) else none
theorem de_291 {z : iv_Z} {L : Nat} {xs : Nat → Int32} (hz : dZ z L xs) {d : Nat} (hd : 1 ≤ d) {x0 : Nat} {x1 : Int} {x2 : Int} {s : gx_S} {δ : dS} {q : Nat × DS} (h : dm_291 x0 x1 x2 s δ = some q) : dE z 291 d 0 [some (.ref x0), some (.int (Int32.ofInt x1)), some (.int (Int32.ofInt x2)), none, none] [] (s, δ) (some (.ref q.1)) q.2 := by
  unfold dm_291 at h
  refine ds_iload_n (k := 1) (p := 1) (by decide +kernel) rfl rfl ?_
  refine ds_iload_n (k := 2) (p := 2) (by decide +kernel) rfl rfl ?_
  obtain ⟨q1, w2, h⟩ := fx_bd h
  refine ds_callS (idx := 343) (mj := 292) (na := 2) (mx := 2) (p := 5) (args := [.int (Int32.ofInt x1), .int (Int32.ofInt x2)]) (rest := []) (al2 := [some (.int (Int32.ofInt x1)), some (.int (Int32.ofInt x2))]) (S2 := q1) (by decide +kernel) rfl (by decide +kernel) rfl rfl rfl rfl rfl rfl (by omega) (fun d' hd' => de_292 hz (by omega) w2) rfl ?_
  refine ds_iload_n (k := 2) (p := 6) (by decide +kernel) rfl rfl ?_
  refine ds_iload_n (k := 1) (p := 7) (by decide +kernel) rfl rfl ?_
  refine ds_isub (p := 8) (c := Int32.ofInt (x2 - x1)) (by decide +kernel) rfl (ga_sub rfl rfl) ?_
  refine ds_istore_n (k := 3) (p := 9) (M := 5) (al' := [some (.ref x0), some (.int (Int32.ofInt x1)), some (.int (Int32.ofInt x2)), some (.int (Int32.ofInt (x2 - x1))), none]) (by decide +kernel) rfl mx_291 rfl rfl ?_
  refine ds_iload_n (k := 3) (p := 10) (by decide +kernel) rfl rfl ?_
  obtain ⟨z3, h⟩ := fx_gd h
  obtain ⟨t4, w5, h⟩ := fx_bd h
  refine ds_newarray (a := .byte) (t := 3) (p := 12) (by decide +kernel) rfl (by decide +kernel) (by decide) z3 ?_
  rw [Option.some.inj w5]
  refine ds_astore (k := 4) (p := 14) (M := 5) (al' := [some (.ref x0), some (.int (Int32.ofInt x1)), some (.int (Int32.ofInt x2)), some (.int (Int32.ofInt (x2 - x1))), some (.ref q1.2.n)]) (by decide +kernel) rfl mx_291 rfl rfl ?_
  refine ds_aload_n (k := 0) (p := 15) (by decide +kernel) rfl rfl ?_
  refine ds_iload_n (k := 1) (p := 16) (by decide +kernel) rfl rfl ?_
  refine ds_aload (k := 4) (p := 18) (by decide +kernel) rfl rfl ?_
  refine ds_iconst (n := 0) (p := 19) (by decide +kernel) rfl rfl ?_
  refine ds_aload_n (k := 0) (p := 20) (by decide +kernel) rfl rfl ?_
  obtain ⟨z6, h⟩ := fx_gd h
  refine ds_alen (t := 3) (p := 21) (by decide +kernel) rfl z6 (by decide) ?_
  refine ds_iload_n (k := 1) (p := 22) (by decide +kernel) rfl rfl ?_
  refine ds_isub (p := 23) (c := Int32.ofInt (((t4.sh x0).2 : Int) - x1)) (by decide +kernel) rfl (ga_sub rfl rfl) ?_
  refine ds_iload_n (k := 3) (p := 24) (by decide +kernel) rfl rfl ?_
  obtain ⟨z7, h⟩ := fx_gd h
  obtain ⟨z8, h⟩ := fx_gd h
  refine ds_min (idx := 304) (p := 27) (c := Int32.ofInt (if (x2 - x1) < (((t4.sh x0).2 : Int) - x1) then (x2 - x1) else (((t4.sh x0).2 : Int) - x1))) (by decide +kernel) rfl (by decide +kernel) rfl (ga_lt_ite rfl rfl z7 z8) ?_
  obtain ⟨z9, h⟩ := fx_gd h
  obtain ⟨z10, h⟩ := fx_gd h
  obtain ⟨t11, w12, h⟩ := fx_bd h
  refine ds_cpy (idx := 150) (p := 30) (by decide +kernel) rfl (by decide +kernel) rfl z6 z9 z10 ?_
  rw [Option.some.inj w12]
  refine ds_aload (k := 4) (p := 32) (by decide +kernel) rfl rfl ?_
  have h := Option.some.inj h
  subst h
  exact ds_aret (by decide +kernel) (by decide +kernel)
/-! java/util/Arrays.copyOfRange([BII)[B d -/
theorem mx_290 : iv_mx 290 = 3 := by decide +kernel
def dm_290_10 (x0 : Nat) (x1 : Int) (x2 : Int) (s : gx_S) (δ : dS) : Option (Nat × DS) :=
  (dm_291 x0 x1 x2 s δ).bind fun q1 =>
  some (q1.1, q1.2.1, q1.2.2)
theorem de_290_10 {z : iv_Z} {L : Nat} {xs : Nat → Int32} (hz : dZ z L xs) {d : Nat} (hd : 2 ≤ d) (x0 : Nat) (x1 : Int) (x2 : Int) (s : gx_S) (δ : dS) (q : Nat × DS) (h : dm_290_10  x0 x1 x2 s δ = some q) : dE z 290 d 10 [some (.ref x0), some (.int (Int32.ofInt x1)), some (.int (Int32.ofInt x2))] [] (s, δ) (some (.ref q.1)) q.2 := by
  unfold dm_290_10 at h
  refine ds_aload_n (k := 0) (p := 11) (by decide +kernel) rfl rfl ?_
  refine ds_iload_n (k := 1) (p := 12) (by decide +kernel) rfl rfl ?_
  refine ds_iload_n (k := 2) (p := 13) (by decide +kernel) rfl rfl ?_
  obtain ⟨q1, w2, h⟩ := fx_bd h
  refine ds_callS (idx := 339) (mj := 291) (na := 3) (mx := 5) (p := 16) (args := [.ref x0, .int (Int32.ofInt x1), .int (Int32.ofInt x2)]) (rest := []) (al2 := [some (.ref x0), some (.int (Int32.ofInt x1)), some (.int (Int32.ofInt x2)), none, none]) (S2 := q1.2) (by decide +kernel) rfl (by decide +kernel) rfl rfl rfl rfl rfl rfl (by omega) (fun d' hd' => de_291 hz (by omega) w2) rfl ?_
  have h := Option.some.inj h
  subst h
  exact ds_aret (by decide +kernel) (by decide +kernel)
def dm_290 (x0 : Nat) (x1 : Int) (x2 : Int) (s : gx_S) (δ : dS) : Option (Nat × DS) :=
  if (-2147483648 ≤ x1 ∧ x1 ≤ 2147483647) then (
  if ¬ x1 = 0 then (
    dm_290_10 x0 x1 x2 s δ) else (
    if dA δ 3 x0 then (
    if (-2147483648 ≤ x2 ∧ x2 ≤ 2147483647) then (
    if (-2147483648 ≤ ((δ.sh x0).2 : Int) ∧ ((δ.sh x0).2 : Int) ≤ 2147483647) then (
    if x2 = ((δ.sh x0).2 : Int) then (
      (some (δ.cl x0)).bind fun t7 =>
      if dA t7 3 δ.n then (
      some (δ.n, s, t7)) else none) else (
      dm_290_10 x0 x1 x2 s δ)) else none) else none) else none)) else none
theorem de_290 {z : iv_Z} {L : Nat} {xs : Nat → Int32} (hz : dZ z L xs) {d : Nat} (hd : 2 ≤ d) {x0 : Nat} {x1 : Int} {x2 : Int} {s : gx_S} {δ : dS} {q : Nat × DS} (h : dm_290 x0 x1 x2 s δ = some q) : dE z 290 d 0 [some (.ref x0), some (.int (Int32.ofInt x1)), some (.int (Int32.ofInt x2))] [] (s, δ) (some (.ref q.1)) q.2 := by
  unfold dm_290 at h
  refine ds_iload_n (k := 1) (p := 1) (by decide +kernel) rfl rfl ?_
  obtain ⟨z1, h⟩ := fx_gd h
  by_cases c2 : ¬ x1 = 0
  · rw [if_pos c2] at h
    refine ds_if_ne_t (off := 9) (t := 10) (by decide +kernel) (by decide +kernel) ((gc_ne rfl rfl z1 (by decide)).mpr c2) ?_
    exact de_290_10 hz hd _ _ _ _ _ _ h
  · rw [if_neg c2] at h
    refine ds_if_ne_f (off := 9) (t := 10) (p := 4) (by decide +kernel) (by decide +kernel) rfl (fun q => c2 ((gc_ne rfl rfl z1 (by decide)).mp q)) ?_
    refine ds_iload_n (k := 2) (p := 5) (by decide +kernel) rfl rfl ?_
    refine ds_aload_n (k := 0) (p := 6) (by decide +kernel) rfl rfl ?_
    obtain ⟨z3, h⟩ := fx_gd h
    refine ds_alen (t := 3) (p := 7) (by decide +kernel) rfl z3 (by decide) ?_
    obtain ⟨z4, h⟩ := fx_gd h
    obtain ⟨z5, h⟩ := fx_gd h
    by_cases c6 : x2 = ((δ.sh x0).2 : Int)
    · rw [if_pos c6] at h
      refine ds_icmp_eq_t (off := 10) (t := 17) (by decide +kernel) (by decide +kernel) ((gc_eq rfl rfl z4 z5).mpr c6) ?_
      refine ds_aload_n (k := 0) (p := 18) (by decide +kernel) rfl rfl ?_
      obtain ⟨t7, w8, h⟩ := fx_bd h
      refine ds_clone (idx := 310) (t := 3) (p := 21) (by decide +kernel) rfl (by decide) (by decide +kernel) rfl z3 ?_
      rw [Option.some.inj w8]
      obtain ⟨z9, h⟩ := fx_gd h
      refine ds_castA (idx := 311) (t := 3) (p := 24) (by decide +kernel) rfl (by decide +kernel) (by decide) z9 ?_
      have h := Option.some.inj h
      subst h
      exact ds_aret (by decide +kernel) (by decide +kernel)
    · rw [if_neg c6] at h
      refine ds_icmp_eq_f (off := 10) (t := 17) (p := 10) (by decide +kernel) (by decide +kernel) rfl (fun q => c6 ((gc_eq rfl rfl z4 z5).mp q)) ?_
      exact de_290_10 hz hd _ _ _ _ _ _ h
/-! java/lang/String.<init>(Ljava/lang/AbstractStringBuilder;Ljava/lang/Void;)V d d n -/
theorem mx_277 : iv_mx 277 = 5 := by decide +kernel
theorem rt_277 : iv_rt 277 = none := by decide +kernel
def dm_277_n_79 (x0 : Nat) (x3 : Nat) (x4 : Int) (s : gx_S) (δ : dS) : Option (DS) :=
  if dO δ x0 12 then (
  (some (δ.w x0 1 1)).bind fun t2 =>
  (dm_290 x3 0 ((Int32.ofInt x4 <<< (Int32.ofInt 1 &&& 31)).toInt) s t2).bind fun q4 =>
  if dO q4.2.2 x0 12 then (
  (some (q4.2.2.r x0 0 (some q4.1))).bind fun t7 =>
  some (q4.2.1, t7)) else none) else none
theorem de_277_n_79 {z : iv_Z} {L : Nat} {xs : Nat → Int32} (hz : dZ z L xs) {d : Nat} (hd : 3 ≤ d) (x0 : Nat) (x3 : Nat) (x4 : Int) (o1 : Option Value) (o2 : Option Value) (s : gx_S) (δ : dS) (q : DS) (h : dm_277_n_79  x0 x3 x4 s δ = some q) : dE z 277 d 79 [some (.ref x0), o1, o2, some (.ref x3), some (.int (Int32.ofInt x4))] [] (s, δ) none q := by
  unfold dm_277_n_79 at h
  refine ds_aload_n (k := 0) (p := 80) (by decide +kernel) rfl rfl ?_
  refine ds_iconst (n := 1) (p := 81) (by decide +kernel) rfl rfl ?_
  obtain ⟨z1, h⟩ := fx_gd h
  obtain ⟨t2, w3, h⟩ := fx_bd h
  refine ds_pfi (idx := 15) (ci := 12) (j := 1) (p := 84) (by decide +kernel) rfl (by decide +kernel) (by decide +kernel) z1 (by decide +kernel) ?_
  rw [Option.some.inj w3]
  refine ds_aload_n (k := 0) (p := 85) (by decide +kernel) rfl rfl ?_
  refine ds_aload_n (k := 3) (p := 86) (by decide +kernel) rfl rfl ?_
  refine ds_iconst (n := 0) (p := 87) (by decide +kernel) rfl rfl ?_
  refine ds_iload (k := 4) (p := 89) (by decide +kernel) rfl rfl ?_
  refine ds_iconst (n := 1) (p := 90) (by decide +kernel) rfl rfl ?_
  refine ds_ishl (p := 91) (c := Int32.ofInt (Int32.ofInt x4 <<< (Int32.ofInt 1 &&& 31)).toInt) (by decide +kernel) rfl (Int32.ofInt_toInt _).symm ?_
  obtain ⟨q4, w5, h⟩ := fx_bd h
  refine ds_callS (idx := 54) (mj := 290) (na := 3) (mx := 3) (p := 94) (args := [.ref x3, .int (Int32.ofInt 0), .int (Int32.ofInt ((Int32.ofInt x4 <<< (Int32.ofInt 1 &&& 31)).toInt))]) (rest := [.ref x0]) (al2 := [some (.ref x3), some (.int (Int32.ofInt 0)), some (.int (Int32.ofInt ((Int32.ofInt x4 <<< (Int32.ofInt 1 &&& 31)).toInt)))]) (S2 := q4.2) (by decide +kernel) rfl (by decide +kernel) rfl rfl rfl rfl rfl rfl (by omega) (fun d' hd' => de_290 hz (by omega) w5) rfl ?_
  obtain ⟨z6, h⟩ := fx_gd h
  obtain ⟨t7, w8, h⟩ := fx_bd h
  refine ds_pfr (idx := 9) (ci := 12) (j := 0) (p := 97) (by decide +kernel) rfl (by decide +kernel) (by decide +kernel) z6 (dok_r (by decide +kernel)) ?_
  rw [Option.some.inj w8]
  have h := Option.some.inj h
  subst h
  exact ds_ret (by decide +kernel) rt_277
def dm_277_n (x0 : Nat) (x1 : Nat) (s : gx_S) (δ : dS) : Option (DS) :=
  if dO δ x1 11 then (
  (dm_273 x1 s δ).bind fun q1 =>
  if dO q1.2.2 x1 11 then (
  (dm_261 x1 q1.2.1 q1.2.2).bind fun q4 =>
  if dO q4.2.2 x1 11 then (
  (dm_270 x1 q4.2.1 q4.2.2).bind fun q7 =>
  if (-2147483648 ≤ q7.1 ∧ q7.1 ≤ 2147483647) then (
  if q7.1 = 0 then (
    if dO q7.2.2 x1 11 then (
    if (-2147483648 ≤ (q7.2.2.I x1 2) ∧ (q7.2.2.I x1 2) ≤ 2147483647) then (
    if (q7.2.2.I x1 2) = 0 then (
      dm_277_n_79 x0 q1.1 q4.1 q7.2.1 q7.2.2) else (
      none)) else none) else none) else (
    if dO q7.2.2 x0 12 then (
    (some (q7.2.2.w x0 1 0)).bind fun t16 =>
    (dm_290 q1.1 0 q4.1 q7.2.1 t16).bind fun q18 =>
    if dO q18.2.2 x0 12 then (
    (some (q18.2.2.r x0 0 (some q18.1))).bind fun t21 =>
    some (q18.2.1, t21)) else none) else none)) else none) else none) else none) else none
theorem de_277_n {z : iv_Z} {L : Nat} {xs : Nat → Int32} (hz : dZ z L xs) {d : Nat} (hd : 3 ≤ d) {x0 : Nat} {x1 : Nat} {s : gx_S} {δ : dS} {q : DS} (h : dm_277_n x0 x1 s δ = some q) : dE z 277 d 0 [some (.ref x0), some (.ref x1), some (.null), none, none] [] (s, δ) none q := by
  unfold dm_277_n at h
  refine ds_aload_n (k := 0) (p := 1) (by decide +kernel) rfl rfl ?_
  refine ds_oinit (idx := 1) (p := 4) (by decide +kernel) rfl (by decide +kernel) rfl ?_
  refine ds_aload_n (k := 1) (p := 5) (by decide +kernel) rfl rfl ?_
  obtain ⟨z3, h⟩ := fx_gd h
  obtain ⟨q1, w2, h⟩ := fx_bd h
  refine ds_callV (idx := 552) (mj := 273) (ci := 11) (na := 0) (mx := 1) (p := 8) (args := [.ref x1]) (rest := []) (al2 := [some (.ref x1)]) (S2 := q1.2) (by decide +kernel) rfl (by decide +kernel) (Or.inl ⟨_, rfl, Or.inl z3⟩) rfl rfl rfl rfl rfl rfl (by omega) (fun d' hd' => de_273 hz (by omega) w2) rfl ?_
  refine ds_astore_n (k := 3) (p := 9) (M := 5) (al' := [some (.ref x0), some (.ref x1), some (.null), some (.ref q1.1), none]) (by decide +kernel) rfl mx_277 rfl rfl ?_
  refine ds_aload_n (k := 1) (p := 10) (by decide +kernel) rfl rfl ?_
  obtain ⟨z6, h⟩ := fx_gd h
  obtain ⟨q4, w5, h⟩ := fx_bd h
  refine ds_callV (idx := 549) (mj := 261) (ci := 11) (na := 0) (mx := 1) (p := 13) (args := [.ref x1]) (rest := []) (al2 := [some (.ref x1)]) (S2 := q4.2) (by decide +kernel) rfl (by decide +kernel) (Or.inl ⟨_, rfl, Or.inl z6⟩) rfl rfl rfl rfl rfl rfl (by omega) (fun d' hd' => de_261 hz (by omega) w5) rfl ?_
  refine ds_istore (k := 4) (p := 15) (M := 5) (al' := [some (.ref x0), some (.ref x1), some (.null), some (.ref q1.1), some (.int (Int32.ofInt q4.1))]) (by decide +kernel) rfl mx_277 rfl rfl ?_
  refine ds_aload_n (k := 1) (p := 16) (by decide +kernel) rfl rfl ?_
  obtain ⟨z9, h⟩ := fx_gd h
  obtain ⟨q7, w8, h⟩ := fx_bd h
  refine ds_callV (idx := 1047) (mj := 270) (ci := 11) (na := 0) (mx := 1) (p := 19) (args := [.ref x1]) (rest := []) (al2 := [some (.ref x1)]) (S2 := q7.2) (by decide +kernel) rfl (by decide +kernel) (Or.inl ⟨_, rfl, Or.inl z9⟩) rfl rfl rfl rfl rfl rfl (by omega) (fun d' hd' => de_270 hz (by omega) w8) rfl ?_
  obtain ⟨z10, h⟩ := fx_gd h
  by_cases c11 : q7.1 = 0
  · rw [if_pos c11] at h
    refine ds_if_eq_t (off := 22) (t := 41) (by decide +kernel) (by decide +kernel) ((gc_eq rfl rfl z10 (by decide)).mpr c11) ?_
    refine ds_gets0 (idx := 38) (p := 44) (by decide +kernel) rfl (by decide +kernel) ?_
    refine ds_if_eq_f (off := 35) (t := 79) (p := 47) (by decide +kernel) (by decide +kernel) rfl (fun q => absurd ((gc_eq (x := 1) (y := 0) rfl rfl (by decide) (by decide)).mp q) (by decide)) ?_
    refine ds_aload_n (k := 1) (p := 48) (by decide +kernel) rfl rfl ?_
    obtain ⟨z12, h⟩ := fx_gd h
    refine ds_gfi (idx := 1048) (ci := 11) (j := 2) (p := 51) (by decide +kernel) rfl (by decide +kernel) z12 ?_
    obtain ⟨z13, h⟩ := fx_gd h
    by_cases c14 : (q7.2.2.I x1 2) = 0
    · rw [if_pos c14] at h
      refine ds_if_eq_t (off := 28) (t := 79) (by decide +kernel) (by decide +kernel) ((gc_eq rfl rfl z13 (by decide)).mpr c14) ?_
      exact de_277_n_79 hz hd _ _ _ _ _ _ _ _ h
    · rw [if_neg c14] at h
      refine ds_if_eq_f (off := 28) (t := 79) (p := 54) (by decide +kernel) (by decide +kernel) rfl (fun q => c14 ((gc_eq rfl rfl z13 (by decide)).mp q)) ?_
      exact fx_no h
  · rw [if_neg c11] at h
    refine ds_if_eq_f (off := 22) (t := 41) (p := 22) (by decide +kernel) (by decide +kernel) rfl (fun q => c11 ((gc_eq rfl rfl z10 (by decide)).mp q)) ?_
    refine ds_aload_n (k := 0) (p := 23) (by decide +kernel) rfl rfl ?_
    refine ds_iconst (n := 0) (p := 24) (by decide +kernel) rfl rfl ?_
    obtain ⟨z15, h⟩ := fx_gd h
    obtain ⟨t16, w17, h⟩ := fx_bd h
    refine ds_pfi (idx := 15) (ci := 12) (j := 1) (p := 27) (by decide +kernel) rfl (by decide +kernel) (by decide +kernel) z15 (by decide +kernel) ?_
    rw [Option.some.inj w17]
    refine ds_aload_n (k := 0) (p := 28) (by decide +kernel) rfl rfl ?_
    refine ds_aload_n (k := 3) (p := 29) (by decide +kernel) rfl rfl ?_
    refine ds_iconst (n := 0) (p := 30) (by decide +kernel) rfl rfl ?_
    refine ds_iload (k := 4) (p := 32) (by decide +kernel) rfl rfl ?_
    obtain ⟨q18, w19, h⟩ := fx_bd h
    refine ds_callS (idx := 54) (mj := 290) (na := 3) (mx := 3) (p := 35) (args := [.ref q1.1, .int (Int32.ofInt 0), .int (Int32.ofInt q4.1)]) (rest := [.ref x0]) (al2 := [some (.ref q1.1), some (.int (Int32.ofInt 0)), some (.int (Int32.ofInt q4.1))]) (S2 := q18.2) (by decide +kernel) rfl (by decide +kernel) rfl rfl rfl rfl rfl rfl (by omega) (fun d' hd' => de_290 hz (by omega) w19) rfl ?_
    obtain ⟨z20, h⟩ := fx_gd h
    obtain ⟨t21, w22, h⟩ := fx_bd h
    refine ds_pfr (idx := 9) (ci := 12) (j := 0) (p := 38) (by decide +kernel) rfl (by decide +kernel) (by decide +kernel) z20 (dok_r (by decide +kernel)) ?_
    rw [Option.some.inj w22]
    refine ds_goto (off := 59) (p := 97) (by decide +kernel) (by decide +kernel) ?_
    have h := Option.some.inj h
    subst h
    exact ds_ret (by decide +kernel) rt_277
/-! java/lang/String.<init>(Ljava/lang/StringBuilder;)V d d -/
theorem mx_276 : iv_mx 276 = 2 := by decide +kernel
theorem rt_276 : iv_rt 276 = none := by decide +kernel
def dm_276 (x0 : Nat) (x1 : Nat) (s : gx_S) (δ : dS) : Option (DS) :=
  if dO δ x0 12 then (
  (dm_277_n x0 x1 s δ).bind fun q1 =>
  some (q1.1, q1.2)) else none
theorem de_276 {z : iv_Z} {L : Nat} {xs : Nat → Int32} (hz : dZ z L xs) {d : Nat} (hd : 4 ≤ d) {x0 : Nat} {x1 : Nat} {s : gx_S} {δ : dS} {q : DS} (h : dm_276 x0 x1 s δ = some q) : dE z 276 d 0 [some (.ref x0), some (.ref x1)] [] (s, δ) none q := by
  unfold dm_276 at h
  refine ds_aload_n (k := 0) (p := 1) (by decide +kernel) rfl rfl ?_
  refine ds_aload_n (k := 1) (p := 2) (by decide +kernel) rfl rfl ?_
  refine ds_null (p := 3) (by decide +kernel) rfl ?_
  obtain ⟨z3, h⟩ := fx_gd h
  obtain ⟨q1, w2, h⟩ := fx_bd h
  refine ds_callP (idx := 489) (mj := 277) (ci := 12) (na := 2) (mx := 5) (p := 6) (args := [.ref x0, .ref x1, .null]) (rest := []) (al2 := [some (.ref x0), some (.ref x1), some (.null), none, none]) (S2 := q1) (by decide +kernel) rfl (by decide +kernel) (Or.inl ⟨_, rfl, Or.inl z3⟩) rfl rfl rfl rfl rfl rfl (by omega) (fun d' hd' => de_277_n hz (by omega) w2) rfl ?_
  have h := Option.some.inj h
  subst h
  exact ds_ret (by decide +kernel) rt_276
/-! java/lang/StringBuilder.toString()Ljava/lang/String; d -/
theorem mx_262 : iv_mx 262 = 1 := by decide +kernel
def dm_262 (x0 : Nat) (s : gx_S) (δ : dS) : Option (Nat × DS) :=
  (some (δ.al (100 + 12) (dnf 12))).bind fun t1 =>
  if dO t1 δ.n 12 then (
  (dm_276 δ.n x0 s t1).bind fun q3 =>
  some (δ.n, q3.1, q3.2)) else none
theorem de_262 {z : iv_Z} {L : Nat} {xs : Nat → Int32} (hz : dZ z L xs) {d : Nat} (hd : 5 ≤ d) {x0 : Nat} {s : gx_S} {δ : dS} {q : Nat × DS} (h : dm_262 x0 s δ = some q) : dE z 262 d 0 [some (.ref x0)] [] (s, δ) (some (.ref q.1)) q.2 := by
  unfold dm_262 at h
  obtain ⟨t1, w2, h⟩ := fx_bd h
  refine ds_new (idx := 18) (ci := 12) (p := 3) (by decide +kernel) rfl (by decide +kernel) (by decide +kernel) ?_
  rw [Option.some.inj w2]
  refine ds_dup (p := 4) (by decide +kernel) rfl rfl ?_
  refine ds_aload_n (k := 0) (p := 5) (by decide +kernel) rfl rfl ?_
  obtain ⟨z5, h⟩ := fx_gd h
  obtain ⟨q3, w4, h⟩ := fx_bd h
  refine ds_callP (idx := 137) (mj := 276) (ci := 12) (na := 1) (mx := 2) (p := 8) (args := [.ref δ.n, .ref x0]) (rest := [.ref δ.n]) (al2 := [some (.ref δ.n), some (.ref x0)]) (S2 := q3) (by decide +kernel) rfl (by decide +kernel) (Or.inl ⟨_, rfl, Or.inl z5⟩) rfl rfl rfl rfl rfl rfl (by omega) (fun d' hd' => de_276 hz (by omega) w4) rfl ?_
  have h := Option.some.inj h
  subst h
  exact ds_aret (by decide +kernel) (by decide +kernel)
/-! jdk/internal/util/ArraysSupport.newLength(III)I  -/
theorem mx_293 : iv_mx 293 = 4 := by decide +kernel
theorem rt_293 : iv_rt 293 = some .int := by decide +kernel
def dm_293_21 (x0 : Int) (x1 : Int) (s : gx_S) (δ : dS) : Option (Int × DS) :=
  none
theorem de_293_21 {z : iv_Z} {L : Nat} {xs : Nat → Int32} (hz : dZ z L xs) {d : Nat} (hd : 0 ≤ d) (x0 : Int) (x1 : Int) (o2 : Option Value) (o3 : Option Value) (s : gx_S) (δ : dS) (q : Int × DS) (h : dm_293_21  x0 x1 s δ = some q) : dE z 293 d 21 [some (.int (Int32.ofInt x0)), some (.int (Int32.ofInt x1)), o2, o3] [] (s, δ) (some (.int (Int32.ofInt q.1))) q.2 := by
  unfold dm_293_21 at h
  exact fx_no h
def dm_293 (x0 : Int) (x1 : Int) (x2 : Int) (s : gx_S) (δ : dS) : Option (Int × DS) :=
  if (-2147483648 ≤ x1 ∧ x1 ≤ 2147483647) then (
  if (-2147483648 ≤ x2 ∧ x2 ≤ 2147483647) then (
  if (-2147483648 ≤ (x0 + (if x1 < x2 then x2 else x1)) ∧ (x0 + (if x1 < x2 then x2 else x1)) ≤ 2147483647) then (
  if (x0 + (if x1 < x2 then x2 else x1)) ≤ 0 then (
    dm_293_21 x0 x1 s δ) else (
    if 2147483639 < (x0 + (if x1 < x2 then x2 else x1)) then (
      dm_293_21 x0 x1 s δ) else (
      some ((x0 + (if x1 < x2 then x2 else x1)), s, δ)))) else none) else none) else none
theorem de_293 {z : iv_Z} {L : Nat} {xs : Nat → Int32} (hz : dZ z L xs) {d : Nat} (hd : 0 ≤ d) {x0 : Int} {x1 : Int} {x2 : Int} {s : gx_S} {δ : dS} {q : Int × DS} (h : dm_293 x0 x1 x2 s δ = some q) : dE z 293 d 0 [some (.int (Int32.ofInt x0)), some (.int (Int32.ofInt x1)), some (.int (Int32.ofInt x2)), none] [] (s, δ) (some (.int (Int32.ofInt q.1))) q.2 := by
  unfold dm_293 at h
  refine ds_iload_n (k := 0) (p := 1) (by decide +kernel) rfl rfl ?_
  refine ds_iload_n (k := 1) (p := 2) (by decide +kernel) rfl rfl ?_
  refine ds_iload_n (k := 2) (p := 3) (by decide +kernel) rfl rfl ?_
  obtain ⟨z1, h⟩ := fx_gd h
  obtain ⟨z2, h⟩ := fx_gd h
  refine ds_max (idx := 194) (p := 6) (c := Int32.ofInt (if x1 < x2 then x2 else x1)) (by decide +kernel) rfl (by decide +kernel) rfl (ga_gt_ite rfl rfl z1 z2) ?_
  refine ds_iadd (p := 7) (c := Int32.ofInt (x0 + (if x1 < x2 then x2 else x1))) (by decide +kernel) rfl (ga_add rfl rfl) ?_
  refine ds_istore_n (k := 3) (p := 8) (M := 4) (al' := [some (.int (Int32.ofInt x0)), some (.int (Int32.ofInt x1)), some (.int (Int32.ofInt x2)), some (.int (Int32.ofInt (x0 + (if x1 < x2 then x2 else x1))))]) (by decide +kernel) rfl mx_293 rfl rfl ?_
  refine ds_iconst (n := 0) (p := 9) (by decide +kernel) rfl rfl ?_
  refine ds_iload_n (k := 3) (p := 10) (by decide +kernel) rfl rfl ?_
  obtain ⟨z3, h⟩ := fx_gd h
  by_cases c4 : (x0 + (if x1 < x2 then x2 else x1)) ≤ 0
  · rw [if_pos c4] at h
    refine ds_icmp_ge_t (off := 11) (t := 21) (by decide +kernel) (by decide +kernel) ((gc_le rfl rfl z3 (by decide)).mpr c4) ?_
    exact de_293_21 hz hd _ _ _ _ _ _ _ h
  · rw [if_neg c4] at h
    refine ds_icmp_ge_f (off := 11) (t := 21) (p := 13) (by decide +kernel) (by decide +kernel) rfl (fun q => c4 ((gc_le rfl rfl z3 (by decide)).mp q)) ?_
    refine ds_iload_n (k := 3) (p := 14) (by decide +kernel) rfl rfl ?_
    refine ds_ldc (idx := 200) (p := 16) (x := Int32.ofInt 2147483639) (by decide +kernel) rfl (by decide +kernel) ?_
    by_cases c5 : 2147483639 < (x0 + (if x1 < x2 then x2 else x1))
    · rw [if_pos c5] at h
      refine ds_icmp_gt_t (off := 5) (t := 21) (by decide +kernel) (by decide +kernel) ((gc_lt rfl rfl (by decide) z3).mpr c5) ?_
      exact de_293_21 hz hd _ _ _ _ _ _ _ h
    · rw [if_neg c5] at h
      refine ds_icmp_gt_f (off := 5) (t := 21) (p := 19) (by decide +kernel) (by decide +kernel) rfl (fun q => c5 ((gc_lt rfl rfl (by decide) z3).mp q)) ?_
      refine ds_iload_n (k := 3) (p := 20) (by decide +kernel) rfl rfl ?_
      have h := Option.some.inj h
      subst h
      exact ds_iret (by decide +kernel) rt_293 rfl
/-! java/lang/AbstractStringBuilder.newCapacity(I)I d -/
theorem mx_269 : iv_mx 269 = 6 := by decide +kernel
theorem rt_269 : iv_rt 269 = some .int := by decide +kernel
def dm_269 (x0 : Nat) (x1 : Int) (s : gx_S) (δ : dS) : Option (Int × DS) :=
  if dO δ x0 11 then (
  (δ.P x0 0).bind fun v2 =>
  if dA δ 3 v2 then (
  (dm_293 ((δ.sh v2).2 : Int) ((Int32.ofInt x1 <<< (Int32.ofInt (δ.I x0 1) &&& 31)).toInt - ((δ.sh v2).2 : Int)) (((δ.sh v2).2 : Int) + (Int32.ofInt 2 <<< (Int32.ofInt (δ.I x0 1) &&& 31)).toInt) s δ).bind fun q5 =>
  if (-2147483648 ≤ q5.1 ∧ q5.1 ≤ 2147483647) then (
  if ¬ q5.1 = 2147483647 then (
    if dO q5.2.2 x0 11 then (
    some ((Int32.ofInt q5.1 >>> (Int32.ofInt (q5.2.2.I x0 1) &&& 31)).toInt, q5.2.1, q5.2.2)) else none) else (
    none)) else none) else none) else none
theorem de_269 {z : iv_Z} {L : Nat} {xs : Nat → Int32} (hz : dZ z L xs) {d : Nat} (hd : 1 ≤ d) {x0 : Nat} {x1 : Int} {s : gx_S} {δ : dS} {q : Int × DS} (h : dm_269 x0 x1 s δ = some q) : dE z 269 d 0 [some (.ref x0), some (.int (Int32.ofInt x1)), none, none, none, none] [] (s, δ) (some (.int (Int32.ofInt q.1))) q.2 := by
  unfold dm_269 at h
  refine ds_aload_n (k := 0) (p := 1) (by decide +kernel) rfl rfl ?_
  obtain ⟨z1, h⟩ := fx_gd h
  obtain ⟨v2, w3, h⟩ := fx_bd h
  refine ds_gfr (idx := 15) (ci := 11) (j := 0) (p := 4) (by decide +kernel) rfl (by decide +kernel) z1 w3 ?_
  obtain ⟨z4, h⟩ := fx_gd h
  refine ds_alen (t := 3) (p := 5) (by decide +kernel) rfl z4 (by decide) ?_
  refine ds_istore_n (k := 2) (p := 6) (M := 6) (al' := [some (.ref x0), some (.int (Int32.ofInt x1)), some (.int (Int32.ofInt ((δ.sh v2).2 : Int))), none, none, none]) (by decide +kernel) rfl mx_269 rfl rfl ?_
  refine ds_iload_n (k := 1) (p := 7) (by decide +kernel) rfl rfl ?_
  refine ds_aload_n (k := 0) (p := 8) (by decide +kernel) rfl rfl ?_
  refine ds_gfi (idx := 22) (ci := 11) (j := 1) (p := 11) (by decide +kernel) rfl (by decide +kernel) z1 ?_
  refine ds_ishl (p := 12) (c := Int32.ofInt (Int32.ofInt x1 <<< (Int32.ofInt (δ.I x0 1) &&& 31)).toInt) (by decide +kernel) rfl (Int32.ofInt_toInt _).symm ?_
  refine ds_istore_n (k := 3) (p := 13) (M := 6) (al' := [some (.ref x0), some (.int (Int32.ofInt x1)), some (.int (Int32.ofInt ((δ.sh v2).2 : Int))), some (.int (Int32.ofInt ((Int32.ofInt x1 <<< (Int32.ofInt (δ.I x0 1) &&& 31)).toInt))), none, none]) (by decide +kernel) rfl mx_269 rfl rfl ?_
  refine ds_iload_n (k := 3) (p := 14) (by decide +kernel) rfl rfl ?_
  refine ds_iload_n (k := 2) (p := 15) (by decide +kernel) rfl rfl ?_
  refine ds_isub (p := 16) (c := Int32.ofInt ((Int32.ofInt x1 <<< (Int32.ofInt (δ.I x0 1) &&& 31)).toInt - ((δ.sh v2).2 : Int))) (by decide +kernel) rfl (ga_sub rfl rfl) ?_
  refine ds_istore (k := 4) (p := 18) (M := 6) (al' := [some (.ref x0), some (.int (Int32.ofInt x1)), some (.int (Int32.ofInt ((δ.sh v2).2 : Int))), some (.int (Int32.ofInt ((Int32.ofInt x1 <<< (Int32.ofInt (δ.I x0 1) &&& 31)).toInt))), some (.int (Int32.ofInt ((Int32.ofInt x1 <<< (Int32.ofInt (δ.I x0 1) &&& 31)).toInt - ((δ.sh v2).2 : Int)))), none]) (by decide +kernel) rfl mx_269 rfl rfl ?_
  refine ds_iload_n (k := 2) (p := 19) (by decide +kernel) rfl rfl ?_
  refine ds_iload (k := 4) (p := 21) (by decide +kernel) rfl rfl ?_
  refine ds_iload_n (k := 2) (p := 22) (by decide +kernel) rfl rfl ?_
  refine ds_iconst (n := 2) (p := 23) (by decide +kernel) rfl rfl ?_
  refine ds_aload_n (k := 0) (p := 24) (by decide +kernel) rfl rfl ?_
  refine ds_gfi (idx := 22) (ci := 11) (j := 1) (p := 27) (by decide +kernel) rfl (by decide +kernel) z1 ?_
  refine ds_ishl (p := 28) (c := Int32.ofInt (Int32.ofInt 2 <<< (Int32.ofInt (δ.I x0 1) &&& 31)).toInt) (by decide +kernel) rfl (Int32.ofInt_toInt _).symm ?_
  refine ds_iadd (p := 29) (c := Int32.ofInt (((δ.sh v2).2 : Int) + (Int32.ofInt 2 <<< (Int32.ofInt (δ.I x0 1) &&& 31)).toInt)) (by decide +kernel) rfl (ga_add rfl rfl) ?_
  obtain ⟨q5, w6, h⟩ := fx_bd h
  refine ds_callS (idx := 114) (mj := 293) (na := 3) (mx := 4) (p := 32) (args := [.int (Int32.ofInt ((δ.sh v2).2 : Int)), .int (Int32.ofInt ((Int32.ofInt x1 <<< (Int32.ofInt (δ.I x0 1) &&& 31)).toInt - ((δ.sh v2).2 : Int))), .int (Int32.ofInt (((δ.sh v2).2 : Int) + (Int32.ofInt 2 <<< (Int32.ofInt (δ.I x0 1) &&& 31)).toInt))]) (rest := []) (al2 := [some (.int (Int32.ofInt ((δ.sh v2).2 : Int))), some (.int (Int32.ofInt ((Int32.ofInt x1 <<< (Int32.ofInt (δ.I x0 1) &&& 31)).toInt - ((δ.sh v2).2 : Int)))), some (.int (Int32.ofInt (((δ.sh v2).2 : Int) + (Int32.ofInt 2 <<< (Int32.ofInt (δ.I x0 1) &&& 31)).toInt))), none]) (S2 := q5.2) (by decide +kernel) rfl (by decide +kernel) rfl rfl rfl rfl rfl rfl (by omega) (fun d' hd' => de_293 hz (by omega) w6) rfl ?_
  refine ds_istore (k := 5) (p := 34) (M := 6) (al' := [some (.ref x0), some (.int (Int32.ofInt x1)), some (.int (Int32.ofInt ((δ.sh v2).2 : Int))), some (.int (Int32.ofInt ((Int32.ofInt x1 <<< (Int32.ofInt (δ.I x0 1) &&& 31)).toInt))), some (.int (Int32.ofInt ((Int32.ofInt x1 <<< (Int32.ofInt (δ.I x0 1) &&& 31)).toInt - ((δ.sh v2).2 : Int)))), some (.int (Int32.ofInt q5.1))]) (by decide +kernel) rfl mx_269 rfl rfl ?_
  refine ds_iload (k := 5) (p := 36) (by decide +kernel) rfl rfl ?_
  refine ds_ldc (idx := 39) (p := 38) (x := Int32.ofInt 2147483647) (by decide +kernel) rfl (by decide +kernel) ?_
  obtain ⟨z7, h⟩ := fx_gd h
  by_cases c8 : ¬ q5.1 = 2147483647
  · rw [if_pos c8] at h
    refine ds_icmp_ne_t (off := 13) (t := 51) (by decide +kernel) (by decide +kernel) ((gc_ne rfl rfl z7 (by decide)).mpr c8) ?_
    refine ds_iload (k := 5) (p := 53) (by decide +kernel) rfl rfl ?_
    refine ds_aload_n (k := 0) (p := 54) (by decide +kernel) rfl rfl ?_
    obtain ⟨z9, h⟩ := fx_gd h
    refine ds_gfi (idx := 22) (ci := 11) (j := 1) (p := 57) (by decide +kernel) rfl (by decide +kernel) z9 ?_
    refine ds_ishr (p := 58) (c := Int32.ofInt (Int32.ofInt q5.1 >>> (Int32.ofInt (q5.2.2.I x0 1) &&& 31)).toInt) (by decide +kernel) rfl (Int32.ofInt_toInt _).symm ?_
    have h := Option.some.inj h
    subst h
    exact ds_iret (by decide +kernel) rt_269 rfl
  · rw [if_neg c8] at h
    refine ds_icmp_ne_f (off := 13) (t := 51) (p := 41) (by decide +kernel) (by decide +kernel) rfl (fun q => c8 ((gc_ne rfl rfl z7 (by decide)).mp q)) ?_
    exact fx_no h
/-! java/util/Arrays.copyOf([BI)[B d -/
theorem mx_289 : iv_mx 289 = 3 := by decide +kernel
def dm_289 (x0 : Nat) (x1 : Int) (s : gx_S) (δ : dS) : Option (Nat × DS) :=
  if dA δ 3 x0 then (
  if (-2147483648 ≤ x1 ∧ x1 ≤ 2147483647) then (
  if (-2147483648 ≤ ((δ.sh x0).2 : Int) ∧ ((δ.sh x0).2 : Int) ≤ 2147483647) then (
  if ¬ x1 = ((δ.sh x0).2 : Int) then (
    if 0 ≤ x1 ∧ x1 ≤ 60000000 then (
    (some (δ.al 3 (x1).toNat)).bind fun t6 =>
    if dA t6 3 x0 then (
    if (-2147483648 ≤ ((t6.sh x0).2 : Int) ∧ ((t6.sh x0).2 : Int) ≤ 2147483647) then (
    if dA t6 3 δ.n then (
    if 0 ≤ (0 : Int) ∧ 0 ≤ (0 : Int) ∧ 0 ≤ (if x1 < ((t6.sh x0).2 : Int) then x1 else ((t6.sh x0).2 : Int)) ∧ (0 : Int) + (if x1 < ((t6.sh x0).2 : Int) then x1 else ((t6.sh x0).2 : Int)) ≤ ((t6.sh x0).2 : Int) ∧ (0 : Int) + (if x1 < ((t6.sh x0).2 : Int) then x1 else ((t6.sh x0).2 : Int)) ≤ ((t6.sh δ.n).2 : Int) then (
    (some (t6.cp x0 ((0 : Int).toNat) δ.n ((0 : Int).toNat) (((if x1 < ((t6.sh x0).2 : Int) then x1 else ((t6.sh x0).2 : Int))).toNat))).bind fun t12 =>
    some (δ.n, s, t12)) else none) else none) else none) else none) else none) else (
    (some (δ.cl x0)).bind fun t14 =>
    if dA t14 3 δ.n then (
    some (δ.n, s, t14)) else none)) else none) else none) else none
theorem de_289 {z : iv_Z} {L : Nat} {xs : Nat → Int32} (hz : dZ z L xs) {d : Nat} (hd : 0 ≤ d) {x0 : Nat} {x1 : Int} {s : gx_S} {δ : dS} {q : Nat × DS} (h : dm_289 x0 x1 s δ = some q) : dE z 289 d 0 [some (.ref x0), some (.int (Int32.ofInt x1)), none] [] (s, δ) (some (.ref q.1)) q.2 := by
  unfold dm_289 at h
  refine ds_iload_n (k := 1) (p := 1) (by decide +kernel) rfl rfl ?_
  refine ds_aload_n (k := 0) (p := 2) (by decide +kernel) rfl rfl ?_
  obtain ⟨z1, h⟩ := fx_gd h
  refine ds_alen (t := 3) (p := 3) (by decide +kernel) rfl z1 (by decide) ?_
  obtain ⟨z2, h⟩ := fx_gd h
  obtain ⟨z3, h⟩ := fx_gd h
  by_cases c4 : ¬ x1 = ((δ.sh x0).2 : Int)
  · rw [if_pos c4] at h
    refine ds_icmp_ne_t (off := 11) (t := 14) (by decide +kernel) (by decide +kernel) ((gc_ne rfl rfl z2 z3).mpr c4) ?_
    refine ds_iload_n (k := 1) (p := 15) (by decide +kernel) rfl rfl ?_
    obtain ⟨z5, h⟩ := fx_gd h
    obtain ⟨t6, w7, h⟩ := fx_bd h
    refine ds_newarray (a := .byte) (t := 3) (p := 17) (by decide +kernel) rfl (by decide +kernel) (by decide) z5 ?_
    rw [Option.some.inj w7]
    refine ds_astore_n (k := 2) (p := 18) (M := 3) (al' := [some (.ref x0), some (.int (Int32.ofInt x1)), some (.ref δ.n)]) (by decide +kernel) rfl mx_289 rfl rfl ?_
    refine ds_aload_n (k := 0) (p := 19) (by decide +kernel) rfl rfl ?_
    refine ds_iconst (n := 0) (p := 20) (by decide +kernel) rfl rfl ?_
    refine ds_aload_n (k := 2) (p := 21) (by decide +kernel) rfl rfl ?_
    refine ds_iconst (n := 0) (p := 22) (by decide +kernel) rfl rfl ?_
    refine ds_aload_n (k := 0) (p := 23) (by decide +kernel) rfl rfl ?_
    obtain ⟨z8, h⟩ := fx_gd h
    refine ds_alen (t := 3) (p := 24) (by decide +kernel) rfl z8 (by decide) ?_
    refine ds_iload_n (k := 1) (p := 25) (by decide +kernel) rfl rfl ?_
    obtain ⟨z9, h⟩ := fx_gd h
    refine ds_min (idx := 304) (p := 28) (c := Int32.ofInt (if x1 < ((t6.sh x0).2 : Int) then x1 else ((t6.sh x0).2 : Int))) (by decide +kernel) rfl (by decide +kernel) rfl (ga_lt_ite rfl rfl z9 z2) ?_
    obtain ⟨z10, h⟩ := fx_gd h
    obtain ⟨z11, h⟩ := fx_gd h
    obtain ⟨t12, w13, h⟩ := fx_bd h
    refine ds_cpy (idx := 150) (p := 31) (by decide +kernel) rfl (by decide +kernel) rfl z8 z10 z11 ?_
    rw [Option.some.inj w13]
    refine ds_aload_n (k := 2) (p := 32) (by decide +kernel) rfl rfl ?_
    have h := Option.some.inj h
    subst h
    exact ds_aret (by decide +kernel) (by decide +kernel)
  · rw [if_neg c4] at h
    refine ds_icmp_ne_f (off := 11) (t := 14) (p := 6) (by decide +kernel) (by decide +kernel) rfl (fun q => c4 ((gc_ne rfl rfl z2 z3).mp q)) ?_
    refine ds_aload_n (k := 0) (p := 7) (by decide +kernel) rfl rfl ?_
    obtain ⟨t14, w15, h⟩ := fx_bd h
    refine ds_clone (idx := 310) (t := 3) (p := 10) (by decide +kernel) rfl (by decide) (by decide +kernel) rfl z1 ?_
    rw [Option.some.inj w15]
    obtain ⟨z16, h⟩ := fx_gd h
    refine ds_castA (idx := 311) (t := 3) (p := 13) (by decide +kernel) rfl (by decide +kernel) (by decide) z16 ?_
    have h := Option.some.inj h
    subst h
    exact ds_aret (by decide +kernel) (by decide +kernel)
/-! java/lang/AbstractStringBuilder.ensureCapacityInternal(I)V d -/
theorem mx_268 : iv_mx 268 = 3 := by decide +kernel
theorem rt_268 : iv_rt 268 = none := by decide +kernel
def dm_268 (x0 : Nat) (x1 : Int) (s : gx_S) (δ : dS) : Option (DS) :=
  if dO δ x0 11 then (
  (δ.P x0 0).bind fun v2 =>
  if dA δ 3 v2 then (
  if (-2147483648 ≤ (x1 - (Int32.ofInt ((δ.sh v2).2 : Int) >>> (Int32.ofInt (δ.I x0 1) &&& 31)).toInt) ∧ (x1 - (Int32.ofInt ((δ.sh v2).2 : Int) >>> (Int32.ofInt (δ.I x0 1) &&& 31)).toInt) ≤ 2147483647) then (
  if (x1 - (Int32.ofInt ((δ.sh v2).2 : Int) >>> (Int32.ofInt (δ.I x0 1) &&& 31)).toInt) ≤ 0 then (
    some (s, δ)) else (
    (δ.P x0 0).bind fun v7 =>
    (dm_269 x0 x1 s δ).bind fun q9 =>
    if dO q9.2.2 x0 11 then (
    (dm_289 v7 ((Int32.ofInt q9.1 <<< (Int32.ofInt (q9.2.2.I x0 1) &&& 31)).toInt) q9.2.1 q9.2.2).bind fun q12 =>
    if dO q12.2.2 x0 11 then (
    (some (q12.2.2.r x0 0 (some q12.1))).bind fun t15 =>
    some (q12.2.1, t15)) else none) else none)) else none) else none) else none
theorem de_268 {z : iv_Z} {L : Nat} {xs : Nat → Int32} (hz : dZ z L xs) {d : Nat} (hd : 2 ≤ d) {x0 : Nat} {x1 : Int} {s : gx_S} {δ : dS} {q : DS} (h : dm_268 x0 x1 s δ = some q) : dE z 268 d 0 [some (.ref x0), some (.int (Int32.ofInt x1)), none] [] (s, δ) none q := by
  unfold dm_268 at h
  refine ds_aload_n (k := 0) (p := 1) (by decide +kernel) rfl rfl ?_
  obtain ⟨z1, h⟩ := fx_gd h
  obtain ⟨v2, w3, h⟩ := fx_bd h
  refine ds_gfr (idx := 15) (ci := 11) (j := 0) (p := 4) (by decide +kernel) rfl (by decide +kernel) z1 w3 ?_
  obtain ⟨z4, h⟩ := fx_gd h
  refine ds_alen (t := 3) (p := 5) (by decide +kernel) rfl z4 (by decide) ?_
  refine ds_aload_n (k := 0) (p := 6) (by decide +kernel) rfl rfl ?_
  refine ds_gfi (idx := 22) (ci := 11) (j := 1) (p := 9) (by decide +kernel) rfl (by decide +kernel) z1 ?_
  refine ds_ishr (p := 10) (c := Int32.ofInt (Int32.ofInt ((δ.sh v2).2 : Int) >>> (Int32.ofInt (δ.I x0 1) &&& 31)).toInt) (by decide +kernel) rfl (Int32.ofInt_toInt _).symm ?_
  refine ds_istore_n (k := 2) (p := 11) (M := 3) (al' := [some (.ref x0), some (.int (Int32.ofInt x1)), some (.int (Int32.ofInt ((Int32.ofInt ((δ.sh v2).2 : Int) >>> (Int32.ofInt (δ.I x0 1) &&& 31)).toInt)))]) (by decide +kernel) rfl mx_268 rfl rfl ?_
  refine ds_iload_n (k := 1) (p := 12) (by decide +kernel) rfl rfl ?_
  refine ds_iload_n (k := 2) (p := 13) (by decide +kernel) rfl rfl ?_
  refine ds_isub (p := 14) (c := Int32.ofInt (x1 - (Int32.ofInt ((δ.sh v2).2 : Int) >>> (Int32.ofInt (δ.I x0 1) &&& 31)).toInt)) (by decide +kernel) rfl (ga_sub rfl rfl) ?_
  obtain ⟨z5, h⟩ := fx_gd h
  by_cases c6 : (x1 - (Int32.ofInt ((δ.sh v2).2 : Int) >>> (Int32.ofInt (δ.I x0 1) &&& 31)).toInt) ≤ 0
  · rw [if_pos c6] at h
    refine ds_if_le_t (off := 24) (t := 38) (by decide +kernel) (by decide +kernel) ((gc_le rfl rfl z5 (by decide)).mpr c6) ?_
    have h := Option.some.inj h
    subst h
    exact ds_ret (by decide +kernel) rt_268
  · rw [if_neg c6] at h
    refine ds_if_le_f (off := 24) (t := 38) (p := 17) (by decide +kernel) (by decide +kernel) rfl (fun q => c6 ((gc_le rfl rfl z5 (by decide)).mp q)) ?_
    refine ds_aload_n (k := 0) (p := 18) (by decide +kernel) rfl rfl ?_
    refine ds_aload_n (k := 0) (p := 19) (by decide +kernel) rfl rfl ?_
    obtain ⟨v7, w8, h⟩ := fx_bd h
    refine ds_gfr (idx := 15) (ci := 11) (j := 0) (p := 22) (by decide +kernel) rfl (by decide +kernel) z1 w8 ?_
    refine ds_aload_n (k := 0) (p := 23) (by decide +kernel) rfl rfl ?_
    refine ds_iload_n (k := 1) (p := 24) (by decide +kernel) rfl rfl ?_
    obtain ⟨q9, w10, h⟩ := fx_bd h
    refine ds_callV (idx := 104) (mj := 269) (ci := 11) (na := 1) (mx := 6) (p := 27) (args := [.ref x0, .int (Int32.ofInt x1)]) (rest := [.ref v7, .ref x0]) (al2 := [some (.ref x0), some (.int (Int32.ofInt x1)), none, none, none, none]) (S2 := q9.2) (by decide +kernel) rfl (by decide +kernel) (Or.inl ⟨_, rfl, Or.inl z1⟩) rfl rfl rfl rfl rfl rfl (by omega) (fun d' hd' => de_269 hz (by omega) w10) rfl ?_
    refine ds_aload_n (k := 0) (p := 28) (by decide +kernel) rfl rfl ?_
    obtain ⟨z11, h⟩ := fx_gd h
    refine ds_gfi (idx := 22) (ci := 11) (j := 1) (p := 31) (by decide +kernel) rfl (by decide +kernel) z11 ?_
    refine ds_ishl (p := 32) (c := Int32.ofInt (Int32.ofInt q9.1 <<< (Int32.ofInt (q9.2.2.I x0 1) &&& 31)).toInt) (by decide +kernel) rfl (Int32.ofInt_toInt _).symm ?_
    obtain ⟨q12, w13, h⟩ := fx_bd h
    refine ds_callS (idx := 108) (mj := 289) (na := 2) (mx := 3) (p := 35) (args := [.ref v7, .int (Int32.ofInt ((Int32.ofInt q9.1 <<< (Int32.ofInt (q9.2.2.I x0 1) &&& 31)).toInt))]) (rest := [.ref x0]) (al2 := [some (.ref v7), some (.int (Int32.ofInt ((Int32.ofInt q9.1 <<< (Int32.ofInt (q9.2.2.I x0 1) &&& 31)).toInt))), none]) (S2 := q12.2) (by decide +kernel) rfl (by decide +kernel) rfl rfl rfl rfl rfl rfl (by omega) (fun d' hd' => de_289 hz (by omega) w13) rfl ?_
    obtain ⟨z14, h⟩ := fx_gd h
    obtain ⟨t15, w16, h⟩ := fx_bd h
    refine ds_pfr (idx := 15) (ci := 11) (j := 0) (p := 38) (by decide +kernel) rfl (by decide +kernel) (by decide +kernel) z14 (dok_r (by decide +kernel)) ?_
    rw [Option.some.inj w16]
    have h := Option.some.inj h
    subst h
    exact ds_ret (by decide +kernel) rt_268
/-! java/lang/StringLatin1.canEncode(C)Z  -/
theorem mx_285 : iv_mx 285 = 1 := by decide +kernel
theorem rt_285 : iv_rt 285 = some .boolean := by decide +kernel
def dm_285 (x0 : Int) (s : gx_S) (δ : dS) : Option (Int × DS) :=
  if (-2147483648 ≤ x0 ∧ x0 ≤ 2147483647) then (
  if 255 < x0 then (
    some (0, s, δ)) else (
    some (1, s, δ))) else none
theorem de_285 {z : iv_Z} {L : Nat} {xs : Nat → Int32} (hz : dZ z L xs) {d : Nat} (hd : 0 ≤ d) {x0 : Int} {s : gx_S} {δ : dS} {q : Int × DS} (h : dm_285 x0 s δ = some q) : dE z 285 d 0 [some (.int (Int32.ofInt x0))] [] (s, δ) (some (.int (Int32.ofInt q.1))) q.2 := by
  unfold dm_285 at h
  refine ds_iload_n (k := 0) (p := 1) (by decide +kernel) rfl rfl ?_
  refine ds_sipush (n := 255) (p := 4) (by decide +kernel) rfl dks_255 ?_
  obtain ⟨z1, h⟩ := fx_gd h
  by_cases c2 : 255 < x0
  · rw [if_pos c2] at h
    refine ds_icmp_gt_t (off := 7) (t := 11) (by decide +kernel) (by decide +kernel) ((gc_lt rfl rfl (by decide) z1).mpr c2) ?_
    refine ds_iconst (n := 0) (p := 12) (by decide +kernel) rfl rfl ?_
    have h := Option.some.inj h
    subst h
    exact ds_iret (by decide +kernel) rt_285 (by decide +kernel)
  · rw [if_neg c2] at h
    refine ds_icmp_gt_f (off := 7) (t := 11) (p := 7) (by decide +kernel) (by decide +kernel) rfl (fun q => c2 ((gc_lt rfl rfl (by decide) z1).mp q)) ?_
    refine ds_iconst (n := 1) (p := 8) (by decide +kernel) rfl rfl ?_
    refine ds_goto (off := 4) (p := 12) (by decide +kernel) (by decide +kernel) ?_
    have h := Option.some.inj h
    subst h
    exact ds_iret (by decide +kernel) rt_285 (by decide +kernel)
/-! java/lang/AbstractStringBuilder.append(C)Ljava/lang/AbstractStringBuilder; d -/
theorem mx_264 : iv_mx 264 = 2 := by decide +kernel
def dm_264_56 (x0 : Nat) (x1 : Int) (s : gx_S) (δ : dS) : Option (Nat × DS) :=
  none
theorem de_264_56 {z : iv_Z} {L : Nat} {xs : Nat → Int32} (hz : dZ z L xs) {d : Nat} (hd : 3 ≤ d) (x0 : Nat) (x1 : Int) (s : gx_S) (δ : dS) (q : Nat × DS) (h : dm_264_56  x0 x1 s δ = some q) : dE z 264 d 56 [some (.ref x0), some (.int (Int32.ofInt x1))] [] (s, δ) (some (.ref q.1)) q.2 := by
  unfold dm_264_56 at h
  exact fx_no h
def dm_264_45 (x0 : Nat) (x1 : Int) (s : gx_S) (δ : dS) : Option (Nat × DS) :=
  if dO δ x0 11 then (
  (dm_270 x0 s δ).bind fun q1 =>
  if (-2147483648 ≤ q1.1 ∧ q1.1 ≤ 2147483647) then (
  if q1.1 = 0 then (
    dm_264_56 x0 x1 q1.2.1 q1.2.2) else (
    none)) else none) else none
theorem de_264_45 {z : iv_Z} {L : Nat} {xs : Nat → Int32} (hz : dZ z L xs) {d : Nat} (hd : 3 ≤ d) (x0 : Nat) (x1 : Int) (s : gx_S) (δ : dS) (q : Nat × DS) (h : dm_264_45  x0 x1 s δ = some q) : dE z 264 d 45 [some (.ref x0), some (.int (Int32.ofInt x1))] [] (s, δ) (some (.ref q.1)) q.2 := by
  unfold dm_264_45 at h
  refine ds_aload_n (k := 0) (p := 46) (by decide +kernel) rfl rfl ?_
  obtain ⟨z3, h⟩ := fx_gd h
  obtain ⟨q1, w2, h⟩ := fx_bd h
  refine ds_callV (idx := 83) (mj := 270) (ci := 11) (na := 0) (mx := 1) (p := 49) (args := [.ref x0]) (rest := []) (al2 := [some (.ref x0)]) (S2 := q1.2) (by decide +kernel) rfl (by decide +kernel) (Or.inl ⟨_, rfl, Or.inl z3⟩) rfl rfl rfl rfl rfl rfl (by omega) (fun d' hd' => de_270 hz (by omega) w2) rfl ?_
  obtain ⟨z4, h⟩ := fx_gd h
  by_cases c5 : q1.1 = 0
  · rw [if_pos c5] at h
    refine ds_if_eq_t (off := 7) (t := 56) (by decide +kernel) (by decide +kernel) ((gc_eq rfl rfl z4 (by decide)).mpr c5) ?_
    exact de_264_56 hz hd _ _ _ _ _ h
  · rw [if_neg c5] at h
    refine ds_if_eq_f (off := 7) (t := 56) (p := 52) (by decide +kernel) (by decide +kernel) rfl (fun q => c5 ((gc_eq rfl rfl z4 (by decide)).mp q)) ?_
    exact fx_no h
def dm_264_75 (x0 : Nat) (s : gx_S) (δ : dS) : Option (Nat × DS) :=
  some (x0, s, δ)
theorem de_264_75 {z : iv_Z} {L : Nat} {xs : Nat → Int32} (hz : dZ z L xs) {d : Nat} (hd : 3 ≤ d) (x0 : Nat) (o1 : Option Value) (s : gx_S) (δ : dS) (q : Nat × DS) (h : dm_264_75  x0 s δ = some q) : dE z 264 d 75 [some (.ref x0), o1] [] (s, δ) (some (.ref q.1)) q.2 := by
  unfold dm_264_75 at h
  refine ds_aload_n (k := 0) (p := 76) (by decide +kernel) rfl rfl ?_
  have h := Option.some.inj h
  subst h
  exact ds_aret (by decide +kernel) (by decide +kernel)
def dm_264 (x0 : Nat) (x1 : Int) (s : gx_S) (δ : dS) : Option (Nat × DS) :=
  if dO δ x0 11 then (
  (dm_268 x0 ((δ.I x0 3) + 1) s δ).bind fun q2 =>
  if dO q2.2 x0 11 then (
  (dm_270 x0 q2.1 q2.2).bind fun q4 =>
  if (-2147483648 ≤ q4.1 ∧ q4.1 ≤ 2147483647) then (
  if q4.1 = 0 then (
    dm_264_45 x0 x1 q4.2.1 q4.2.2) else (
    (dm_285 x1 q4.2.1 q4.2.2).bind fun q9 =>
    if (-2147483648 ≤ q9.1 ∧ q9.1 ≤ 2147483647) then (
    if q9.1 = 0 then (
      dm_264_45 x0 x1 q9.2.1 q9.2.2) else (
      if dO q9.2.2 x0 11 then (
      (q9.2.2.P x0 0).bind fun v14 =>
      (some (q9.2.2.w x0 3 ((q9.2.2.I x0 3) + 1))).bind fun t16 =>
      if dA t16 3 v14 then (
      if dI t16 v14 (q9.2.2.I x0 3) then (
      (some (t16.w v14 (((q9.2.2.I x0 3)).toNat) (gn3 (((Int32.ofInt x1).toInt8.toInt32).toInt)))).bind fun t20 =>
      dm_264_75 x0 q9.2.1 t20) else none) else none) else none)) else none)) else none) else none) else none
theorem de_264 {z : iv_Z} {L : Nat} {xs : Nat → Int32} (hz : dZ z L xs) {d : Nat} (hd : 3 ≤ d) {x0 : Nat} {x1 : Int} {s : gx_S} {δ : dS} {q : Nat × DS} (h : dm_264 x0 x1 s δ = some q) : dE z 264 d 0 [some (.ref x0), some (.int (Int32.ofInt x1))] [] (s, δ) (some (.ref q.1)) q.2 := by
  unfold dm_264 at h
  refine ds_aload_n (k := 0) (p := 1) (by decide +kernel) rfl rfl ?_
  refine ds_aload_n (k := 0) (p := 2) (by decide +kernel) rfl rfl ?_
  obtain ⟨z1, h⟩ := fx_gd h
  refine ds_gfi (idx := 79) (ci := 11) (j := 3) (p := 5) (by decide +kernel) rfl (by decide +kernel) z1 ?_
  refine ds_iconst (n := 1) (p := 6) (by decide +kernel) rfl rfl ?_
  refine ds_iadd (p := 7) (c := Int32.ofInt ((δ.I x0 3) + 1)) (by decide +kernel) rfl (ga_add rfl rfl) ?_
  obtain ⟨q2, w3, h⟩ := fx_bd h
  refine ds_callV (idx := 100) (mj := 268) (ci := 11) (na := 1) (mx := 3) (p := 10) (args := [.ref x0, .int (Int32.ofInt ((δ.I x0 3) + 1))]) (rest := []) (al2 := [some (.ref x0), some (.int (Int32.ofInt ((δ.I x0 3) + 1))), none]) (S2 := q2) (by decide +kernel) rfl (by decide +kernel) (Or.inl ⟨_, rfl, Or.inl z1⟩) rfl rfl rfl rfl rfl rfl (by omega) (fun d' hd' => de_268 hz (by omega) w3) rfl ?_
  refine ds_aload_n (k := 0) (p := 11) (by decide +kernel) rfl rfl ?_
  obtain ⟨z6, h⟩ := fx_gd h
  obtain ⟨q4, w5, h⟩ := fx_bd h
  refine ds_callV (idx := 83) (mj := 270) (ci := 11) (na := 0) (mx := 1) (p := 14) (args := [.ref x0]) (rest := []) (al2 := [some (.ref x0)]) (S2 := q4.2) (by decide +kernel) rfl (by decide +kernel) (Or.inl ⟨_, rfl, Or.inl z6⟩) rfl rfl rfl rfl rfl rfl (by omega) (fun d' hd' => de_270 hz (by omega) w5) rfl ?_
  obtain ⟨z7, h⟩ := fx_gd h
  by_cases c8 : q4.1 = 0
  · rw [if_pos c8] at h
    refine ds_if_eq_t (off := 31) (t := 45) (by decide +kernel) (by decide +kernel) ((gc_eq rfl rfl z7 (by decide)).mpr c8) ?_
    exact de_264_45 hz hd _ _ _ _ _ h
  · rw [if_neg c8] at h
    refine ds_if_eq_f (off := 31) (t := 45) (p := 17) (by decide +kernel) (by decide +kernel) rfl (fun q => c8 ((gc_eq rfl rfl z7 (by decide)).mp q)) ?_
    refine ds_iload_n (k := 1) (p := 18) (by decide +kernel) rfl rfl ?_
    obtain ⟨q9, w10, h⟩ := fx_bd h
    refine ds_callS (idx := 191) (mj := 285) (na := 1) (mx := 1) (p := 21) (args := [.int (Int32.ofInt x1)]) (rest := []) (al2 := [some (.int (Int32.ofInt x1))]) (S2 := q9.2) (by decide +kernel) rfl (by decide +kernel) rfl rfl rfl rfl rfl rfl (by omega) (fun d' hd' => de_285 hz (by omega) w10) rfl ?_
    obtain ⟨z11, h⟩ := fx_gd h
    by_cases c12 : q9.1 = 0
    · rw [if_pos c12] at h
      refine ds_if_eq_t (off := 24) (t := 45) (by decide +kernel) (by decide +kernel) ((gc_eq rfl rfl z11 (by decide)).mpr c12) ?_
      exact de_264_45 hz hd _ _ _ _ _ h
    · rw [if_neg c12] at h
      refine ds_if_eq_f (off := 24) (t := 45) (p := 24) (by decide +kernel) (by decide +kernel) rfl (fun q => c12 ((gc_eq rfl rfl z11 (by decide)).mp q)) ?_
      refine ds_aload_n (k := 0) (p := 25) (by decide +kernel) rfl rfl ?_
      obtain ⟨z13, h⟩ := fx_gd h
      obtain ⟨v14, w15, h⟩ := fx_bd h
      refine ds_gfr (idx := 15) (ci := 11) (j := 0) (p := 28) (by decide +kernel) rfl (by decide +kernel) z13 w15 ?_
      refine ds_aload_n (k := 0) (p := 29) (by decide +kernel) rfl rfl ?_
      refine ds_dup (p := 30) (by decide +kernel) rfl rfl ?_
      refine ds_gfi (idx := 79) (ci := 11) (j := 3) (p := 33) (by decide +kernel) rfl (by decide +kernel) z13 ?_
      refine ds_dup_x1 (p := 34) (by decide +kernel) rfl rfl rfl ?_
      refine ds_iconst (n := 1) (p := 35) (by decide +kernel) rfl rfl ?_
      refine ds_iadd (p := 36) (c := Int32.ofInt ((q9.2.2.I x0 3) + 1)) (by decide +kernel) rfl (ga_add rfl rfl) ?_
      obtain ⟨t16, w17, h⟩ := fx_bd h
      refine ds_pfi (idx := 79) (ci := 11) (j := 3) (p := 39) (by decide +kernel) rfl (by decide +kernel) (by decide +kernel) z13 (fx_oki _ (by decide +kernel)) ?_
      rw [Option.some.inj w17]
      refine ds_iload_n (k := 1) (p := 40) (by decide +kernel) rfl rfl ?_
      refine ds_i2b (p := 41) (c := Int32.ofInt ((Int32.ofInt x1).toInt8.toInt32).toInt) (by decide +kernel) rfl (Int32.ofInt_toInt _).symm ?_
      obtain ⟨z18, h⟩ := fx_gd h
      obtain ⟨z19, h⟩ := fx_gd h
      obtain ⟨t20, w21, h⟩ := fx_bd h
      refine ds_bastore3 (p := 42) (by decide +kernel) rfl z18 z19 ?_
      rw [Option.some.inj w21]
      refine ds_goto (off := 33) (p := 75) (by decide +kernel) (by decide +kernel) ?_
      exact de_264_75 hz hd _ _ _ _ _ h
/-! java/lang/StringBuilder.append(C)Ljava/lang/StringBuilder; d -/
theorem mx_258 : iv_mx 258 = 2 := by decide +kernel
def dm_258 (x0 : Nat) (x1 : Int) (s : gx_S) (δ : dS) : Option (Nat × DS) :=
  if dO δ x0 11 then (
  (dm_264 x0 x1 s δ).bind fun q1 =>
  some (x0, q1.2.1, q1.2.2)) else none
theorem de_258 {z : iv_Z} {L : Nat} {xs : Nat → Int32} (hz : dZ z L xs) {d : Nat} (hd : 4 ≤ d) {x0 : Nat} {x1 : Int} {s : gx_S} {δ : dS} {q : Nat × DS} (h : dm_258 x0 x1 s δ = some q) : dE z 258 d 0 [some (.ref x0), some (.int (Int32.ofInt x1))] [] (s, δ) (some (.ref q.1)) q.2 := by
  unfold dm_258 at h
  refine ds_aload_n (k := 0) (p := 1) (by decide +kernel) rfl rfl ?_
  refine ds_iload_n (k := 1) (p := 2) (by decide +kernel) rfl rfl ?_
  obtain ⟨z3, h⟩ := fx_gd h
  obtain ⟨q1, w2, h⟩ := fx_bd h
  refine ds_callP (idx := 50) (mj := 264) (ci := 11) (na := 1) (mx := 2) (p := 5) (args := [.ref x0, .int (Int32.ofInt x1)]) (rest := []) (al2 := [some (.ref x0), some (.int (Int32.ofInt x1))]) (S2 := q1.2) (by decide +kernel) rfl (by decide +kernel) (Or.inl ⟨_, rfl, Or.inl z3⟩) rfl rfl rfl rfl rfl rfl (by omega) (fun d' hd' => de_264 hz (by omega) w2) rfl ?_
  refine ds_pop (p := 6) (by decide +kernel) rfl rfl ?_
  refine ds_aload_n (k := 0) (p := 7) (by decide +kernel) rfl rfl ?_
  have h := Option.some.inj h
  subst h
  exact ds_aret (by decide +kernel) (by decide +kernel)
/-! ZoneSharesLaw.layer([IIZ)Ljava/lang/String; d -/
theorem mx_239 : iv_mx 239 = 5 := by decide +kernel
def dm_239_75 (L : Nat) (xs : Nat → Int32) (k_11 : Nat → Int → Int → Nat → Int → gx_S → dS → Option (Nat × DS)) (x0 : Nat) (x1 : Int) (x2 : Int) (x3 : Nat) (x4 : Int) (s0 : Nat) (s1 : Int) (s : gx_S) (δ : dS) : Option (Nat × DS) :=
  if dO δ s0 11 then (
  (dm_258 s0 s1 s δ).bind fun q1 =>
  k_11 x0 x1 x2 x3 (x4 + 1) q1.2.1 q1.2.2) else none
theorem de_239_75 {z : iv_Z} {L : Nat} {xs : Nat → Int32} (hz : dZ z L xs) {d : Nat} (hd : 6 ≤ d) {k_11 : Nat → Int → Int → Nat → Int → gx_S → dS → Option (Nat × DS)} (hk_11 : ∀ (x0 : Nat) (x1 : Int) (x2 : Int) (x3 : Nat) (x4 : Int) (s : gx_S) (δ : dS) (q : Nat × DS), k_11 x0 x1 x2 x3 x4 s δ = some q → dE z 239 d 11 [some (.ref x0), some (.int (Int32.ofInt x1)), some (.int (Int32.ofInt x2)), some (.ref x3), some (.int (Int32.ofInt x4))] [] (s, δ) (some (.ref q.1)) q.2) (x0 : Nat) (x1 : Int) (x2 : Int) (x3 : Nat) (x4 : Int) (s0 : Nat) (s1 : Int) (s : gx_S) (δ : dS) (q : Nat × DS) (h : dm_239_75 L xs k_11  x0 x1 x2 x3 x4 s0 s1 s δ = some q) : dE z 239 d 75 [some (.ref x0), some (.int (Int32.ofInt x1)), some (.int (Int32.ofInt x2)), some (.ref x3), some (.int (Int32.ofInt x4))] [.int (Int32.ofInt s1), .ref s0] (s, δ) (some (.ref q.1)) q.2 := by
  unfold dm_239_75 at h
  obtain ⟨z3, h⟩ := fx_gd h
  obtain ⟨q1, w2, h⟩ := fx_bd h
  refine ds_callV (idx := 31) (mj := 258) (ci := 11) (na := 1) (mx := 2) (p := 78) (args := [.ref s0, .int (Int32.ofInt s1)]) (rest := []) (al2 := [some (.ref s0), some (.int (Int32.ofInt s1))]) (S2 := q1.2) (by decide +kernel) rfl (by decide +kernel) (Or.inl ⟨_, rfl, Or.inl z3⟩) rfl rfl rfl rfl rfl rfl (by omega) (fun d' hd' => de_258 hz (by omega) w2) rfl ?_
  refine ds_pop (p := 79) (by decide +kernel) rfl rfl ?_
  refine ds_iinc (k := 4) (n := 1) (p := 82) (M := 5) (y := Int32.ofInt (x4 + 1)) (al' := [some (.ref x0), some (.int (Int32.ofInt x1)), some (.int (Int32.ofInt x2)), some (.ref x3), some (.int (Int32.ofInt (x4 + 1)))]) (by decide +kernel) rfl rfl mx_239 rfl rfl (ga_add rfl rfl) rfl ?_
  refine ds_goto (off := -71) (p := 11) (by decide +kernel) (by decide +kernel) ?_
  exact hk_11 _ _ _ _ _ _ _ _ h
def dm_239_37 (L : Nat) (xs : Nat → Int32) (k_11 : Nat → Int → Int → Nat → Int → gx_S → dS → Option (Nat × DS)) (x0 : Nat) (x1 : Int) (x2 : Int) (x3 : Nat) (x4 : Int) (s : gx_S) (δ : dS) : Option (Nat × DS) :=
  if (-2147483648 ≤ x2 ∧ x2 ≤ 2147483647) then (
  if ¬ x2 = 0 then (
    if dA δ 0 x0 then (
    if dI δ x0 x4 then (
    if (-2147483648 ≤ (δ.I x0 ((x4).toNat)) ∧ (δ.I x0 ((x4).toNat)) ≤ 2147483647) then (
    if ¬ (δ.I x0 ((x4).toNat)) = 8 then (
      dm_239_75 L xs k_11 x0 x1 x2 x3 x4 x3 ((((Int32.ofInt (97 + (δ.I x0 ((x4).toNat)))).toUInt32 % 65536).toInt32).toInt) s δ) else (
      dm_239_75 L xs k_11 x0 x1 x2 x3 x4 x3 46 s δ)) else none) else none) else none) else (
    if dA δ 0 x0 then (
    if dI δ x0 x4 then (
    dm_239_75 L xs k_11 x0 x1 x2 x3 x4 x3 ((((Int32.ofInt (48 + (δ.I x0 ((x4).toNat)))).toUInt32 % 65536).toInt32).toInt) s δ) else none) else none)) else none
theorem de_239_37 {z : iv_Z} {L : Nat} {xs : Nat → Int32} (hz : dZ z L xs) {d : Nat} (hd : 6 ≤ d) {k_11 : Nat → Int → Int → Nat → Int → gx_S → dS → Option (Nat × DS)} (hk_11 : ∀ (x0 : Nat) (x1 : Int) (x2 : Int) (x3 : Nat) (x4 : Int) (s : gx_S) (δ : dS) (q : Nat × DS), k_11 x0 x1 x2 x3 x4 s δ = some q → dE z 239 d 11 [some (.ref x0), some (.int (Int32.ofInt x1)), some (.int (Int32.ofInt x2)), some (.ref x3), some (.int (Int32.ofInt x4))] [] (s, δ) (some (.ref q.1)) q.2) (x0 : Nat) (x1 : Int) (x2 : Int) (x3 : Nat) (x4 : Int) (s : gx_S) (δ : dS) (q : Nat × DS) (h : dm_239_37 L xs k_11  x0 x1 x2 x3 x4 s δ = some q) : dE z 239 d 37 [some (.ref x0), some (.int (Int32.ofInt x1)), some (.int (Int32.ofInt x2)), some (.ref x3), some (.int (Int32.ofInt x4))] [] (s, δ) (some (.ref q.1)) q.2 := by
  unfold dm_239_37 at h
  refine ds_aload_n (k := 3) (p := 38) (by decide +kernel) rfl rfl ?_
  refine ds_iload_n (k := 2) (p := 39) (by decide +kernel) rfl rfl ?_
  obtain ⟨z1, h⟩ := fx_gd h
  by_cases c2 : ¬ x2 = 0
  · rw [if_pos c2] at h
    refine ds_if_ne_t (off := 14) (t := 53) (by decide +kernel) (by decide +kernel) ((gc_ne rfl rfl z1 (by decide)).mpr c2) ?_
    refine ds_aload_n (k := 0) (p := 54) (by decide +kernel) rfl rfl ?_
    refine ds_iload (k := 4) (p := 56) (by decide +kernel) rfl rfl ?_
    obtain ⟨z3, h⟩ := fx_gd h
    obtain ⟨z4, h⟩ := fx_gd h
    refine ds_iaload (p := 57) (by decide +kernel) rfl z3 z4 ?_
    refine ds_bipush (n := 8) (p := 59) (by decide +kernel) rfl dkb_8 ?_
    obtain ⟨z5, h⟩ := fx_gd h
    by_cases c6 : ¬ (δ.I x0 ((x4).toNat)) = 8
    · rw [if_pos c6] at h
      refine ds_icmp_ne_t (off := 8) (t := 67) (by decide +kernel) (by decide +kernel) ((gc_ne rfl rfl z5 (by decide)).mpr c6) ?_
      refine ds_bipush (n := 97) (p := 69) (by decide +kernel) rfl dkb_97 ?_
      refine ds_aload_n (k := 0) (p := 70) (by decide +kernel) rfl rfl ?_
      refine ds_iload (k := 4) (p := 72) (by decide +kernel) rfl rfl ?_
      refine ds_iaload (p := 73) (by decide +kernel) rfl z3 z4 ?_
      refine ds_iadd (p := 74) (c := Int32.ofInt (97 + (δ.I x0 ((x4).toNat)))) (by decide +kernel) rfl (ga_add rfl rfl) ?_
      refine ds_i2c (p := 75) (c := Int32.ofInt (((Int32.ofInt (97 + (δ.I x0 ((x4).toNat)))).toUInt32 % 65536).toInt32).toInt) (by decide +kernel) rfl (Int32.ofInt_toInt _).symm ?_
      exact de_239_75 hz hd hk_11 _ _ _ _ _ _ _ _ _ _ h
    · rw [if_neg c6] at h
      refine ds_icmp_ne_f (off := 8) (t := 67) (p := 62) (by decide +kernel) (by decide +kernel) rfl (fun q => c6 ((gc_ne rfl rfl z5 (by decide)).mp q)) ?_
      refine ds_bipush (n := 46) (p := 64) (by decide +kernel) rfl dkb_46 ?_
      refine ds_goto (off := 11) (p := 75) (by decide +kernel) (by decide +kernel) ?_
      exact de_239_75 hz hd hk_11 _ _ _ _ _ _ _ _ _ _ h
  · rw [if_neg c2] at h
    refine ds_if_ne_f (off := 14) (t := 53) (p := 42) (by decide +kernel) (by decide +kernel) rfl (fun q => c2 ((gc_ne rfl rfl z1 (by decide)).mp q)) ?_
    refine ds_bipush (n := 48) (p := 44) (by decide +kernel) rfl dkb_48 ?_
    refine ds_aload_n (k := 0) (p := 45) (by decide +kernel) rfl rfl ?_
    refine ds_iload (k := 4) (p := 47) (by decide +kernel) rfl rfl ?_
    obtain ⟨z7, h⟩ := fx_gd h
    obtain ⟨z8, h⟩ := fx_gd h
    refine ds_iaload (p := 48) (by decide +kernel) rfl z7 z8 ?_
    refine ds_iadd (p := 49) (c := Int32.ofInt (48 + (δ.I x0 ((x4).toNat)))) (by decide +kernel) rfl (ga_add rfl rfl) ?_
    refine ds_i2c (p := 50) (c := Int32.ofInt (((Int32.ofInt (48 + (δ.I x0 ((x4).toNat)))).toUInt32 % 65536).toInt32).toInt) (by decide +kernel) rfl (Int32.ofInt_toInt _).symm ?_
    refine ds_goto (off := 25) (p := 75) (by decide +kernel) (by decide +kernel) ?_
    exact de_239_75 hz hd hk_11 _ _ _ _ _ _ _ _ _ _ h
def dm_239_11 (L : Nat) (xs : Nat → Int32) : Nat → Nat → Int → Int → Nat → Int → gx_S → dS → Option (Nat × DS)
  | 0, _, _, _, _, _, _, _ => none
  | n + 1, x0, x1, x2, x3, x4, s, δ =>
    if dA δ 0 x0 then (
    if (-2147483648 ≤ x4 ∧ x4 ≤ 2147483647) then (
    if (-2147483648 ≤ ((δ.sh x0).2 : Int) ∧ ((δ.sh x0).2 : Int) ≤ 2147483647) then (
    if ((δ.sh x0).2 : Int) ≤ x4 then (
      if dO δ x3 11 then (
      (dm_262 x3 s δ).bind fun q5 =>
      some (q5.1, q5.2.1, q5.2.2)) else none) else (
      if x4 ≤ 0 then (
        dm_239_37 L xs (dm_239_11 L xs n) x0 x1 x2 x3 x4 s δ) else (
        if 0 ≤ x4 ∧ x4 ≤ 2147483647 ∧ 0 < x1 ∧ x1 ≤ 2147483647 then (
        if (-2147483648 ≤ (x4 % x1) ∧ (x4 % x1) ≤ 2147483647) then (
        if ¬ (x4 % x1) = 0 then (
          dm_239_37 L xs (dm_239_11 L xs n) x0 x1 x2 x3 x4 s δ) else (
          if dO δ x3 11 then (
          (dm_258 x3 47 s δ).bind fun q12 =>
          dm_239_37 L xs (dm_239_11 L xs n) x0 x1 x2 x3 x4 q12.2.1 q12.2.2) else none)) else none) else none))) else none) else none) else none
theorem de_239_11 {z : iv_Z} {L : Nat} {xs : Nat → Int32} (hz : dZ z L xs) {d : Nat} (hd : 6 ≤ d) : ∀ (n : Nat) (x0 : Nat) (x1 : Int) (x2 : Int) (x3 : Nat) (x4 : Int) (s : gx_S) (δ : dS) (q : Nat × DS), dm_239_11 L xs n x0 x1 x2 x3 x4 s δ = some q → dE z 239 d 11 [some (.ref x0), some (.int (Int32.ofInt x1)), some (.int (Int32.ofInt x2)), some (.ref x3), some (.int (Int32.ofInt x4))] [] (s, δ) (some (.ref q.1)) q.2 := by
  intro n
  induction n with
  | zero =>
    intro x0 x1 x2 x3 x4 s δ q h
    rw [dm_239_11] at h
    exact fx_no h
  | succ n ih =>
    intro x0 x1 x2 x3 x4 s δ q h
    rw [dm_239_11] at h
    refine ds_iload (k := 4) (p := 13) (by decide +kernel) rfl rfl ?_
    refine ds_aload_n (k := 0) (p := 14) (by decide +kernel) rfl rfl ?_
    obtain ⟨z1, h⟩ := fx_gd h
    refine ds_alen (t := 0) (p := 15) (by decide +kernel) rfl z1 (by decide) ?_
    obtain ⟨z2, h⟩ := fx_gd h
    obtain ⟨z3, h⟩ := fx_gd h
    by_cases c4 : ((δ.sh x0).2 : Int) ≤ x4
    · rw [if_pos c4] at h
      refine ds_icmp_ge_t (off := 70) (t := 85) (by decide +kernel) (by decide +kernel) ((gc_le rfl rfl z3 z2).mpr c4) ?_
      refine ds_aload_n (k := 3) (p := 86) (by decide +kernel) rfl rfl ?_
      obtain ⟨z7, h⟩ := fx_gd h
      obtain ⟨q5, w6, h⟩ := fx_bd h
      refine ds_callV (idx := 35) (mj := 262) (ci := 11) (na := 0) (mx := 1) (p := 89) (args := [.ref x3]) (rest := []) (al2 := [some (.ref x3)]) (S2 := q5.2) (by decide +kernel) rfl (by decide +kernel) (Or.inl ⟨_, rfl, Or.inl z7⟩) rfl rfl rfl rfl rfl rfl (by omega) (fun d' hd' => de_262 hz (by omega) w6) rfl ?_
      have h := Option.some.inj h
      subst h
      exact ds_aret (by decide +kernel) (by decide +kernel)
    · rw [if_neg c4] at h
      refine ds_icmp_ge_f (off := 70) (t := 85) (p := 18) (by decide +kernel) (by decide +kernel) rfl (fun q => c4 ((gc_le rfl rfl z3 z2).mp q)) ?_
      refine ds_iload (k := 4) (p := 20) (by decide +kernel) rfl rfl ?_
      by_cases c8 : x4 ≤ 0
      · rw [if_pos c8] at h
        refine ds_if_le_t (off := 17) (t := 37) (by decide +kernel) (by decide +kernel) ((gc_le rfl rfl z2 (by decide)).mpr c8) ?_
        exact de_239_37 hz hd ih _ _ _ _ _ _ _ _ h
      · rw [if_neg c8] at h
        refine ds_if_le_f (off := 17) (t := 37) (p := 23) (by decide +kernel) (by decide +kernel) rfl (fun q => c8 ((gc_le rfl rfl z2 (by decide)).mp q)) ?_
        refine ds_iload (k := 4) (p := 25) (by decide +kernel) rfl rfl ?_
        refine ds_iload_n (k := 1) (p := 26) (by decide +kernel) rfl rfl ?_
        obtain ⟨z9, h⟩ := fx_gd h
        refine ds_irem (p := 27) (c := Int32.ofInt (x4 % x1)) (by decide +kernel) rfl (gc_nz rfl (x := x4) z9) (ga_rem rfl rfl z9) ?_
        obtain ⟨z10, h⟩ := fx_gd h
        by_cases c11 : ¬ (x4 % x1) = 0
        · rw [if_pos c11] at h
          refine ds_if_ne_t (off := 10) (t := 37) (by decide +kernel) (by decide +kernel) ((gc_ne rfl rfl z10 (by decide)).mpr c11) ?_
          exact de_239_37 hz hd ih _ _ _ _ _ _ _ _ h
        · rw [if_neg c11] at h
          refine ds_if_ne_f (off := 10) (t := 37) (p := 30) (by decide +kernel) (by decide +kernel) rfl (fun q => c11 ((gc_ne rfl rfl z10 (by decide)).mp q)) ?_
          refine ds_aload_n (k := 3) (p := 31) (by decide +kernel) rfl rfl ?_
          refine ds_bipush (n := 47) (p := 33) (by decide +kernel) rfl dkb_47 ?_
          obtain ⟨z14, h⟩ := fx_gd h
          obtain ⟨q12, w13, h⟩ := fx_bd h
          refine ds_callV (idx := 31) (mj := 258) (ci := 11) (na := 1) (mx := 2) (p := 36) (args := [.ref x3, .int (Int32.ofInt 47)]) (rest := []) (al2 := [some (.ref x3), some (.int (Int32.ofInt 47))]) (S2 := q12.2) (by decide +kernel) rfl (by decide +kernel) (Or.inl ⟨_, rfl, Or.inl z14⟩) rfl rfl rfl rfl rfl rfl (by omega) (fun d' hd' => de_258 hz (by omega) w13) rfl ?_
          refine ds_pop (p := 37) (by decide +kernel) rfl rfl ?_
          exact de_239_37 hz hd ih _ _ _ _ _ _ _ _ h
def dm_239 (L : Nat) (xs : Nat → Int32) (x0 : Nat) (x1 : Int) (x2 : Int) (s : gx_S) (δ : dS) : Option (Nat × DS) :=
  (some (δ.al (100 + 11) (dnf 11))).bind fun t1 =>
  if dO t1 δ.n 11 then (
  (dm_257 δ.n s t1).bind fun q3 =>
  dm_239_11 L xs 100000 x0 x1 x2 δ.n 0 q3.1 q3.2) else none
theorem de_239 {z : iv_Z} {L : Nat} {xs : Nat → Int32} (hz : dZ z L xs) {d : Nat} (hd : 6 ≤ d) {x0 : Nat} {x1 : Int} {x2 : Int} {s : gx_S} {δ : dS} {q : Nat × DS} (h : dm_239 L xs x0 x1 x2 s δ = some q) : dE z 239 d 0 [some (.ref x0), some (.int (Int32.ofInt x1)), some (.int (Int32.ofInt x2)), none, none] [] (s, δ) (some (.ref q.1)) q.2 := by
  unfold dm_239 at h
  obtain ⟨t1, w2, h⟩ := fx_bd h
  refine ds_new (idx := 28) (ci := 11) (p := 3) (by decide +kernel) rfl (by decide +kernel) (by decide +kernel) ?_
  rw [Option.some.inj w2]
  refine ds_dup (p := 4) (by decide +kernel) rfl rfl ?_
  obtain ⟨z5, h⟩ := fx_gd h
  obtain ⟨q3, w4, h⟩ := fx_bd h
  refine ds_callP (idx := 30) (mj := 257) (ci := 11) (na := 0) (mx := 1) (p := 7) (args := [.ref δ.n]) (rest := [.ref δ.n]) (al2 := [some (.ref δ.n)]) (S2 := q3) (by decide +kernel) rfl (by decide +kernel) (Or.inl ⟨_, rfl, Or.inl z5⟩) rfl rfl rfl rfl rfl rfl (by omega) (fun d' hd' => de_257 hz (by omega) w4) rfl ?_
  refine ds_astore_n (k := 3) (p := 8) (M := 5) (al' := [some (.ref x0), some (.int (Int32.ofInt x1)), some (.int (Int32.ofInt x2)), some (.ref δ.n), none]) (by decide +kernel) rfl mx_239 rfl rfl ?_
  refine ds_iconst (n := 0) (p := 9) (by decide +kernel) rfl rfl ?_
  refine ds_istore (k := 4) (p := 11) (M := 5) (al' := [some (.ref x0), some (.int (Int32.ofInt x1)), some (.int (Int32.ofInt x2)), some (.ref δ.n), some (.int (Int32.ofInt 0))]) (by decide +kernel) rfl mx_239 rfl rfl ?_
  exact de_239_11 hz hd 100000 _ _ _ _ _ _ _ _ h
