/-! ZoneSharesLaw$Map.<init>()V d -/
theorem mx_256 : iv_mx 256 = 1 := by decide +kernel
theorem rt_256 : iv_rt 256 = none := by decide +kernel
def dm_256 (x0 : Nat) (s : gx_S) (δ : dS) : Option (DS) :=
  (some (δ.mu (3 : Int).toNat (9 : Int).toNat)).bind fun t1 =>
  if dO t1 x0 10 then (
  (some (t1.r x0 7 (some δ.n))).bind fun t4 =>
  (some (t4.mu (3 : Int).toNat (4 : Int).toNat)).bind fun t6 =>
  if dO t6 x0 10 then (
  (some (t6.r x0 8 (some t4.n))).bind fun t9 =>
  if 0 ≤ (8 : Int) ∧ (8 : Int) ≤ 60000000 then (
  (some (t9.al 0 (8 : Int).toNat)).bind fun t12 =>
  if dO t12 x0 10 then (
  (some (t12.r x0 9 (some t9.n))).bind fun t15 =>
  some (s, t15)) else none) else none) else none) else none
theorem de_256 {z : iv_Z} {L : Nat} {xs : Nat → Int32} (hz : dZ z L xs) {d : Nat} (hd : 0 ≤ d) {x0 : Nat} {s : gx_S} {δ : dS} {q : DS} (h : dm_256 x0 s δ = some q) : dE z 256 d 0 [some (.ref x0)] [] (s, δ) none q := by
  unfold dm_256 at h
  refine ds_aload_n (k := 0) (p := 1) (by decide +kernel) rfl rfl ?_
  refine ds_oinit (idx := 1) (p := 4) (by decide +kernel) rfl (by decide +kernel) rfl ?_
  refine ds_aload_n (k := 0) (p := 5) (by decide +kernel) rfl rfl ?_
  refine ds_iconst (n := 3) (p := 6) (by decide +kernel) rfl rfl ?_
  refine ds_bipush (n := 9) (p := 8) (by decide +kernel) rfl dkb_9 ?_
  obtain ⟨t1, w2, h⟩ := fx_bd h
  refine ds_mna (idx := 7) (n := 3) (k := 9) (p := 12) (by decide +kernel) rfl (by decide +kernel) (by decide) (by decide) ?_
  rw [Option.some.inj w2]
  obtain ⟨z3, h⟩ := fx_gd h
  obtain ⟨t4, w5, h⟩ := fx_bd h
  refine ds_pfr (idx := 9) (ci := 10) (j := 7) (p := 15) (by decide +kernel) rfl (by decide +kernel) (by decide +kernel) z3 (dok_r (by decide +kernel)) ?_
  rw [Option.some.inj w5]
  refine ds_aload_n (k := 0) (p := 16) (by decide +kernel) rfl rfl ?_
  refine ds_iconst (n := 3) (p := 17) (by decide +kernel) rfl rfl ?_
  refine ds_iconst (n := 4) (p := 18) (by decide +kernel) rfl rfl ?_
  obtain ⟨t6, w7, h⟩ := fx_bd h
  refine ds_mna (idx := 7) (n := 3) (k := 4) (p := 22) (by decide +kernel) rfl (by decide +kernel) (by decide) (by decide) ?_
  rw [Option.some.inj w7]
  obtain ⟨z8, h⟩ := fx_gd h
  obtain ⟨t9, w10, h⟩ := fx_bd h
  refine ds_pfr (idx := 14) (ci := 10) (j := 8) (p := 25) (by decide +kernel) rfl (by decide +kernel) (by decide +kernel) z8 (dok_r (by decide +kernel)) ?_
  rw [Option.some.inj w10]
  refine ds_aload_n (k := 0) (p := 26) (by decide +kernel) rfl rfl ?_
  refine ds_bipush (n := 8) (p := 28) (by decide +kernel) rfl dkb_8 ?_
  obtain ⟨z11, h⟩ := fx_gd h
  obtain ⟨t12, w13, h⟩ := fx_bd h
  refine ds_newarray (a := .int) (t := 0) (p := 30) (by decide +kernel) rfl (by decide +kernel) (by decide) z11 ?_
  rw [Option.some.inj w13]
  obtain ⟨z14, h⟩ := fx_gd h
  obtain ⟨t15, w16, h⟩ := fx_bd h
  refine ds_pfr (idx := 17) (ci := 10) (j := 9) (p := 33) (by decide +kernel) rfl (by decide +kernel) (by decide +kernel) z14 (dok_r (by decide +kernel)) ?_
  rw [Option.some.inj w16]
  have h := Option.some.inj h
  subst h
  exact ds_ret (by decide +kernel) rt_256
/-! ZoneSharesLaw.told(LZoneShares;[IIIII)LZoneSharesLaw$Map; c s -/
theorem mx_240 : iv_mx 240 = 13 := by decide +kernel
def dm_240_338 (L : Nat) (xs : Nat → Int32) (k_329 : Nat → Int → gx_S → dS → Option (Nat × DS)) : Nat → Nat → Int → Int → gx_S → dS → Option (Nat × DS)
  | 0, _, _, _, _, _ => none
  | n + 1, x6, x11, x12, s, δ =>
    if (-2147483648 ≤ x12 ∧ x12 ≤ 2147483647) then (
    if 4 ≤ x12 then (
      k_329 x6 (x11 + 1) s δ) else (
      if dO δ x6 10 then (
      (δ.P x6 8).bind fun v4 =>
      if dA δ 6 v4 then (
      if dI δ v4 x11 then (
      (δ.P v4 ((x11).toNat)).bind fun v8 =>
      if dA δ 0 v8 then (
      if dI δ v8 x12 then (
      (some (δ.w v8 ((x12).toNat) 1)).bind fun t12 =>
      dm_240_338 L xs k_329 n x6 x11 (x12 + 1) s t12) else none) else none) else none) else none) else none)) else none
theorem de_240_338 {z : iv_Z} {L : Nat} {xs : Nat → Int32} (hz : dZ z L xs) {d : Nat} (hd : 7 ≤ d) {k_329 : Nat → Int → gx_S → dS → Option (Nat × DS)} (hk_329 : ∀ (x6 : Nat) (x11 : Int) (o0 : Option Value) (o1 : Option Value) (o2 : Option Value) (o3 : Option Value) (o4 : Option Value) (o5 : Option Value) (o7 : Option Value) (o8 : Option Value) (o9 : Option Value) (o10 : Option Value) (o12 : Option Value) (s : gx_S) (δ : dS) (q : Nat × DS), k_329 x6 x11 s δ = some q → dE z 240 d 329 [o0, o1, o2, o3, o4, o5, some (.ref x6), o7, o8, o9, o10, some (.int (Int32.ofInt x11)), o12] [] (s, δ) (some (.ref q.1)) q.2) : ∀ (n : Nat) (x6 : Nat) (x11 : Int) (x12 : Int) (o0 : Option Value) (o1 : Option Value) (o2 : Option Value) (o3 : Option Value) (o4 : Option Value) (o5 : Option Value) (o7 : Option Value) (o8 : Option Value) (o9 : Option Value) (o10 : Option Value) (s : gx_S) (δ : dS) (q : Nat × DS), dm_240_338 L xs k_329 n x6 x11 x12 s δ = some q → dE z 240 d 338 [o0, o1, o2, o3, o4, o5, some (.ref x6), o7, o8, o9, o10, some (.int (Int32.ofInt x11)), some (.int (Int32.ofInt x12))] [] (s, δ) (some (.ref q.1)) q.2 := by
  intro n
  induction n with
  | zero =>
    intro x6 x11 x12 o0 o1 o2 o3 o4 o5 o7 o8 o9 o10 s δ q h
    rw [dm_240_338] at h
    exact fx_no h
  | succ n ih =>
    intro x6 x11 x12 o0 o1 o2 o3 o4 o5 o7 o8 o9 o10 s δ q h
    rw [dm_240_338] at h
    refine ds_iload (k := 12) (p := 340) (by decide +kernel) rfl rfl ?_
    refine ds_iconst (n := 4) (p := 341) (by decide +kernel) rfl rfl ?_
    obtain ⟨z1, h⟩ := fx_gd h
    by_cases c2 : 4 ≤ x12
    · rw [if_pos c2] at h
      refine ds_icmp_ge_t (off := 21) (t := 362) (by decide +kernel) (by decide +kernel) ((gc_le rfl rfl (by decide) z1).mpr c2) ?_
      refine ds_iinc (k := 11) (n := 1) (p := 365) (M := 13) (y := Int32.ofInt (x11 + 1)) (al' := [o0, o1, o2, o3, o4, o5, some (.ref x6), o7, o8, o9, (fx_kl o10), some (.int (Int32.ofInt (x11 + 1))), some (.int (Int32.ofInt x12))]) (by decide +kernel) rfl rfl mx_240 rfl rfl (ga_add rfl rfl) rfl ?_
      refine ds_goto (off := -36) (p := 329) (by decide +kernel) (by decide +kernel) ?_
      exact hk_329 _ _ _ _ _ _ _ _ _ _ _ _ _ _ _ _ h
    · rw [if_neg c2] at h
      refine ds_icmp_ge_f (off := 21) (t := 362) (p := 344) (by decide +kernel) (by decide +kernel) rfl (fun q => c2 ((gc_le rfl rfl (by decide) z1).mp q)) ?_
      refine ds_aload (k := 6) (p := 346) (by decide +kernel) rfl rfl ?_
      obtain ⟨z3, h⟩ := fx_gd h
      obtain ⟨v4, w5, h⟩ := fx_bd h
      refine ds_gfr (idx := 75) (ci := 10) (j := 8) (p := 349) (by decide +kernel) rfl (by decide +kernel) z3 w5 ?_
      refine ds_iload (k := 11) (p := 351) (by decide +kernel) rfl rfl ?_
      obtain ⟨z6, h⟩ := fx_gd h
      obtain ⟨z7, h⟩ := fx_gd h
      obtain ⟨v8, w9, h⟩ := fx_bd h
      refine ds_aaload (t := 6) (p := 352) (by decide +kernel) rfl (by decide +kernel) z6 z7 w9 ?_
      refine ds_iload (k := 12) (p := 354) (by decide +kernel) rfl rfl ?_
      refine ds_iconst (n := 1) (p := 355) (by decide +kernel) rfl rfl ?_
      obtain ⟨z10, h⟩ := fx_gd h
      obtain ⟨z11, h⟩ := fx_gd h
      obtain ⟨t12, w13, h⟩ := fx_bd h
      refine ds_iastore (p := 356) (by decide +kernel) rfl z10 z11 ?_
      rw [Option.some.inj w13]
      refine ds_iinc (k := 12) (n := 1) (p := 359) (M := 13) (y := Int32.ofInt (x12 + 1)) (al' := [o0, o1, o2, o3, o4, o5, some (.ref x6), o7, o8, o9, o10, some (.int (Int32.ofInt x11)), some (.int (Int32.ofInt (x12 + 1)))]) (by decide +kernel) rfl rfl mx_240 rfl rfl (ga_add rfl rfl) rfl ?_
      refine ds_goto (off := -21) (p := 338) (by decide +kernel) (by decide +kernel) ?_
      exact ih _ _ _ _ _ _ _ _ _ _ _ _ _ _ _ _ h
def dm_240_329 (L : Nat) (xs : Nat → Int32) : Nat → Nat → Int → gx_S → dS → Option (Nat × DS)
  | 0, _, _, _, _ => none
  | n + 1, x6, x11, s, δ =>
    if (-2147483648 ≤ x11 ∧ x11 ≤ 2147483647) then (
    if 3 ≤ x11 then (
      some (x6, s, δ)) else (
      dm_240_338 L xs (dm_240_329 L xs n) 100000 x6 x11 0 s δ)) else none
theorem de_240_329 {z : iv_Z} {L : Nat} {xs : Nat → Int32} (hz : dZ z L xs) {d : Nat} (hd : 7 ≤ d) : ∀ (n : Nat) (x6 : Nat) (x11 : Int) (o0 : Option Value) (o1 : Option Value) (o2 : Option Value) (o3 : Option Value) (o4 : Option Value) (o5 : Option Value) (o7 : Option Value) (o8 : Option Value) (o9 : Option Value) (o10 : Option Value) (o12 : Option Value) (s : gx_S) (δ : dS) (q : Nat × DS), dm_240_329 L xs n x6 x11 s δ = some q → dE z 240 d 329 [o0, o1, o2, o3, o4, o5, some (.ref x6), o7, o8, o9, o10, some (.int (Int32.ofInt x11)), o12] [] (s, δ) (some (.ref q.1)) q.2 := by
  intro n
  induction n with
  | zero =>
    intro x6 x11 o0 o1 o2 o3 o4 o5 o7 o8 o9 o10 o12 s δ q h
    rw [dm_240_329] at h
    exact fx_no h
  | succ n ih =>
    intro x6 x11 o0 o1 o2 o3 o4 o5 o7 o8 o9 o10 o12 s δ q h
    rw [dm_240_329] at h
    refine ds_iload (k := 11) (p := 331) (by decide +kernel) rfl rfl ?_
    refine ds_iconst (n := 3) (p := 332) (by decide +kernel) rfl rfl ?_
    obtain ⟨z1, h⟩ := fx_gd h
    by_cases c2 : 3 ≤ x11
    · rw [if_pos c2] at h
      refine ds_icmp_ge_t (off := 36) (t := 368) (by decide +kernel) (by decide +kernel) ((gc_le rfl rfl (by decide) z1).mpr c2) ?_
      refine ds_aload (k := 6) (p := 370) (by decide +kernel) rfl rfl ?_
      have h := Option.some.inj h
      subst h
      exact ds_aret (by decide +kernel) (by decide +kernel)
    · rw [if_neg c2] at h
      refine ds_icmp_ge_f (off := 36) (t := 368) (p := 335) (by decide +kernel) (by decide +kernel) rfl (fun q => c2 ((gc_le rfl rfl (by decide) z1).mp q)) ?_
      refine ds_iconst (n := 0) (p := 336) (by decide +kernel) rfl rfl ?_
      refine ds_istore (k := 12) (p := 338) (M := 13) (al' := [o0, o1, o2, o3, o4, o5, some (.ref x6), o7, o8, o9, o10, some (.int (Int32.ofInt x11)), some (.int (Int32.ofInt 0))]) (by decide +kernel) rfl mx_240 rfl rfl ?_
      exact de_240_338 hz hd ih 100000 _ _ _ _ _ _ _ _ _ _ _ _ _ _ _ _ h
def dm_240_210 (L : Nat) (xs : Nat → Int32) (k_107 : Int → Nat → Int → Int → Int → Int → Int → gx_S → dS → Option (Nat × DS)) (x2 : Int) (x6 : Nat) (x7 : Int) (x8 : Int) (x9 : Int) (x10 : Int) (x11 : Int) (x12 : Int) (s0 : Nat) (s1 : Int) (s2 : Int) (s : gx_S) (δ : dS) : Option (Nat × DS) :=
  if dA δ 0 s0 then (
  if dI δ s0 s1 then (
  (some (δ.w s0 ((s1).toNat) s2)).bind fun t3 =>
  if dO t3 x6 10 then (
  (t3.P x6 6).bind fun v6 =>
  if 0 ≤ (Int32.ofInt x12 >>> (Int32.ofInt 17 &&& 31)).toInt ∧ (Int32.ofInt x12 >>> (Int32.ofInt 17 &&& 31)).toInt ≤ 2147483647 ∧ 0 < x10 ∧ x10 ≤ 2147483647 then (
  if dA t3 0 v6 then (
  if dI t3 v6 x11 then (
  (some (t3.w v6 ((x11).toNat) ((Int32.ofInt x12 >>> (Int32.ofInt 17 &&& 31)).toInt % x10))).bind fun t11 =>
  k_107 x2 x6 x7 x8 x9 x10 (x11 + 1) s t11) else none) else none) else none) else none) else none) else none
theorem de_240_210 {z : iv_Z} {L : Nat} {xs : Nat → Int32} (hz : dZ z L xs) {d : Nat} (hd : 7 ≤ d) {k_107 : Int → Nat → Int → Int → Int → Int → Int → gx_S → dS → Option (Nat × DS)} (hk_107 : ∀ (x2 : Int) (x6 : Nat) (x7 : Int) (x8 : Int) (x9 : Int) (x10 : Int) (x11 : Int) (o3 : Option Value) (o4 : Option Value) (o5 : Option Value) (o12 : Option Value) (s : gx_S) (δ : dS) (q : Nat × DS), k_107 x2 x6 x7 x8 x9 x10 x11 s δ = some q → dE z 240 d 107 [some (.ref 0), some (.retAddr 0), some (.int (Int32.ofInt x2)), o3, o4, o5, some (.ref x6), some (.int (Int32.ofInt x7)), some (.int (Int32.ofInt x8)), some (.int (Int32.ofInt x9)), some (.int (Int32.ofInt x10)), some (.int (Int32.ofInt x11)), o12] [] (s, δ) (some (.ref q.1)) q.2) (x2 : Int) (x6 : Nat) (x7 : Int) (x8 : Int) (x9 : Int) (x10 : Int) (x11 : Int) (x12 : Int) (s0 : Nat) (s1 : Int) (s2 : Int) (o3 : Option Value) (o4 : Option Value) (o5 : Option Value) (s : gx_S) (δ : dS) (q : Nat × DS) (h : dm_240_210 L xs k_107  x2 x6 x7 x8 x9 x10 x11 x12 s0 s1 s2 s δ = some q) : dE z 240 d 210 [some (.ref 0), some (.retAddr 0), some (.int (Int32.ofInt x2)), o3, o4, o5, some (.ref x6), some (.int (Int32.ofInt x7)), some (.int (Int32.ofInt x8)), some (.int (Int32.ofInt x9)), some (.int (Int32.ofInt x10)), some (.int (Int32.ofInt x11)), some (.int (Int32.ofInt x12))] [.int (Int32.ofInt s2), .int (Int32.ofInt s1), .ref s0] (s, δ) (some (.ref q.1)) q.2 := by
  unfold dm_240_210 at h
  obtain ⟨z1, h⟩ := fx_gd h
  obtain ⟨z2, h⟩ := fx_gd h
  obtain ⟨t3, w4, h⟩ := fx_bd h
  refine ds_iastore (p := 211) (by decide +kernel) rfl z1 z2 ?_
  rw [Option.some.inj w4]
  refine ds_aload (k := 6) (p := 213) (by decide +kernel) rfl rfl ?_
  obtain ⟨z5, h⟩ := fx_gd h
  obtain ⟨v6, w7, h⟩ := fx_bd h
  refine ds_gfr (idx := 62) (ci := 10) (j := 6) (p := 216) (by decide +kernel) rfl (by decide +kernel) z5 w7 ?_
  refine ds_iload (k := 11) (p := 218) (by decide +kernel) rfl rfl ?_
  refine ds_iload (k := 12) (p := 220) (by decide +kernel) rfl rfl ?_
  refine ds_bipush (n := 17) (p := 222) (by decide +kernel) rfl dkb_17 ?_
  refine ds_ishr (p := 223) (c := Int32.ofInt (Int32.ofInt x12 >>> (Int32.ofInt 17 &&& 31)).toInt) (by decide +kernel) rfl (Int32.ofInt_toInt _).symm ?_
  refine ds_iload (k := 10) (p := 225) (by decide +kernel) rfl rfl ?_
  obtain ⟨z8, h⟩ := fx_gd h
  refine ds_irem (p := 226) (c := Int32.ofInt ((Int32.ofInt x12 >>> (Int32.ofInt 17 &&& 31)).toInt % x10)) (by decide +kernel) rfl (gc_nz rfl (x := ((Int32.ofInt x12 >>> (Int32.ofInt 17 &&& 31)).toInt)) z8) (ga_rem rfl rfl z8) ?_
  obtain ⟨z9, h⟩ := fx_gd h
  obtain ⟨z10, h⟩ := fx_gd h
  obtain ⟨t11, w12, h⟩ := fx_bd h
  refine ds_iastore (p := 227) (by decide +kernel) rfl z9 z10 ?_
  rw [Option.some.inj w12]
  refine ds_iinc (k := 11) (n := 1) (p := 230) (M := 13) (y := Int32.ofInt (x11 + 1)) (al' := [some (.ref 0), some (.retAddr 0), some (.int (Int32.ofInt x2)), o3, o4, o5, some (.ref x6), some (.int (Int32.ofInt x7)), some (.int (Int32.ofInt x8)), some (.int (Int32.ofInt x9)), some (.int (Int32.ofInt x10)), some (.int (Int32.ofInt (x11 + 1))), some (.int (Int32.ofInt x12))]) (by decide +kernel) rfl rfl mx_240 rfl rfl (ga_add rfl rfl) rfl ?_
  refine ds_goto (off := -123) (p := 107) (by decide +kernel) (by decide +kernel) ?_
  exact hk_107 _ _ _ _ _ _ _ _ _ _ _ _ _ _ h
def dm_240_156 (L : Nat) (xs : Nat → Int32) (k_107 : Int → Nat → Int → Int → Int → Int → Int → gx_S → dS → Option (Nat × DS)) (x2 : Int) (x6 : Nat) (x7 : Int) (x8 : Int) (x9 : Int) (x10 : Int) (x11 : Int) (x12 : Int) (s0 : Nat) (s1 : Int) (s2 : Int) (s : gx_S) (δ : dS) : Option (Nat × DS) :=
  if dA δ 0 s0 then (
  if dI δ s0 s1 then (
  (some (δ.w s0 ((s1).toNat) s2)).bind fun t3 =>
  if dO t3 x6 10 then (
  (t3.P x6 5).bind fun v6 =>
  if ¬ (Int32.ofInt ((Int32.ofInt x7 >>> (Int32.ofInt 20 &&& 31)).toInt) &&& Int32.ofInt 7).toInt = 0 then (
    if 0 ≤ (Int32.ofInt x12 >>> (Int32.ofInt 8 &&& 31)).toInt ∧ (Int32.ofInt x12 >>> (Int32.ofInt 8 &&& 31)).toInt ≤ 2147483647 then (
    if (-2147483648 ≤ ((Int32.ofInt x12 >>> (Int32.ofInt 8 &&& 31)).toInt % 9) ∧ ((Int32.ofInt x12 >>> (Int32.ofInt 8 &&& 31)).toInt % 9) ≤ 2147483647) then (
    if ¬ ((Int32.ofInt x12 >>> (Int32.ofInt 8 &&& 31)).toInt % 9) = 0 then (
      if 0 ≤ (Int32.ofInt x12 >>> (Int32.ofInt 12 &&& 31)).toInt ∧ (Int32.ofInt x12 >>> (Int32.ofInt 12 &&& 31)).toInt ≤ 2147483647 ∧ 0 < x9 ∧ x9 ≤ 2147483647 then (
      dm_240_210 L xs k_107 x2 x6 x7 x8 x9 x10 x11 x12 v6 x11 ((Int32.ofInt x12 >>> (Int32.ofInt 12 &&& 31)).toInt % x9) s t3) else none) else (
      dm_240_210 L xs k_107 x2 x6 x7 x8 x9 x10 x11 x12 v6 x11 8 s t3)) else none) else none) else (
    (t3.P x6 4).bind fun v13 =>
    if dA t3 0 v13 then (
    if dI t3 v13 x11 then (
    dm_240_210 L xs k_107 x2 x6 x7 x8 x9 x10 x11 x12 v6 x11 (t3.I v13 ((x11).toNat)) s t3) else none) else none)) else none) else none) else none
theorem de_240_156 {z : iv_Z} {L : Nat} {xs : Nat → Int32} (hz : dZ z L xs) {d : Nat} (hd : 7 ≤ d) {k_107 : Int → Nat → Int → Int → Int → Int → Int → gx_S → dS → Option (Nat × DS)} (hk_107 : ∀ (x2 : Int) (x6 : Nat) (x7 : Int) (x8 : Int) (x9 : Int) (x10 : Int) (x11 : Int) (o3 : Option Value) (o4 : Option Value) (o5 : Option Value) (o12 : Option Value) (s : gx_S) (δ : dS) (q : Nat × DS), k_107 x2 x6 x7 x8 x9 x10 x11 s δ = some q → dE z 240 d 107 [some (.ref 0), some (.retAddr 0), some (.int (Int32.ofInt x2)), o3, o4, o5, some (.ref x6), some (.int (Int32.ofInt x7)), some (.int (Int32.ofInt x8)), some (.int (Int32.ofInt x9)), some (.int (Int32.ofInt x10)), some (.int (Int32.ofInt x11)), o12] [] (s, δ) (some (.ref q.1)) q.2) (x2 : Int) (x6 : Nat) (x7 : Int) (x8 : Int) (x9 : Int) (x10 : Int) (x11 : Int) (x12 : Int) (s0 : Nat) (s1 : Int) (s2 : Int) (o3 : Option Value) (o4 : Option Value) (o5 : Option Value) (s : gx_S) (δ : dS) (q : Nat × DS) (h : dm_240_156 L xs k_107  x2 x6 x7 x8 x9 x10 x11 x12 s0 s1 s2 s δ = some q) : dE z 240 d 156 [some (.ref 0), some (.retAddr 0), some (.int (Int32.ofInt x2)), o3, o4, o5, some (.ref x6), some (.int (Int32.ofInt x7)), some (.int (Int32.ofInt x8)), some (.int (Int32.ofInt x9)), some (.int (Int32.ofInt x10)), some (.int (Int32.ofInt x11)), some (.int (Int32.ofInt x12))] [.int (Int32.ofInt s2), .int (Int32.ofInt s1), .ref s0] (s, δ) (some (.ref q.1)) q.2 := by
  unfold dm_240_156 at h
  obtain ⟨z1, h⟩ := fx_gd h
  obtain ⟨z2, h⟩ := fx_gd h
  obtain ⟨t3, w4, h⟩ := fx_bd h
  refine ds_iastore (p := 157) (by decide +kernel) rfl z1 z2 ?_
  rw [Option.some.inj w4]
  refine ds_aload (k := 6) (p := 159) (by decide +kernel) rfl rfl ?_
  obtain ⟨z5, h⟩ := fx_gd h
  obtain ⟨v6, w7, h⟩ := fx_bd h
  refine ds_gfr (idx := 59) (ci := 10) (j := 5) (p := 162) (by decide +kernel) rfl (by decide +kernel) z5 w7 ?_
  refine ds_iload (k := 11) (p := 164) (by decide +kernel) rfl rfl ?_
  refine ds_iload (k := 7) (p := 166) (by decide +kernel) rfl rfl ?_
  refine ds_bipush (n := 20) (p := 168) (by decide +kernel) rfl dkb_20 ?_
  refine ds_ishr (p := 169) (c := Int32.ofInt (Int32.ofInt x7 >>> (Int32.ofInt 20 &&& 31)).toInt) (by decide +kernel) rfl (Int32.ofInt_toInt _).symm ?_
  refine ds_bipush (n := 7) (p := 171) (by decide +kernel) rfl dkb_7 ?_
  refine ds_iand (p := 172) (c := Int32.ofInt (Int32.ofInt ((Int32.ofInt x7 >>> (Int32.ofInt 20 &&& 31)).toInt) &&& Int32.ofInt 7).toInt) (by decide +kernel) rfl (Int32.ofInt_toInt _).symm ?_
  by_cases c8 : ¬ (Int32.ofInt ((Int32.ofInt x7 >>> (Int32.ofInt 20 &&& 31)).toInt) &&& Int32.ofInt 7).toInt = 0
  · rw [if_pos c8] at h
    refine ds_if_ne_t (off := 14) (t := 186) (by decide +kernel) (by decide +kernel) ((gc_ne rfl rfl (gs_r _) (by decide)).mpr c8) ?_
    refine ds_iload (k := 12) (p := 188) (by decide +kernel) rfl rfl ?_
    refine ds_bipush (n := 8) (p := 190) (by decide +kernel) rfl dkb_8 ?_
    refine ds_ishr (p := 191) (c := Int32.ofInt (Int32.ofInt x12 >>> (Int32.ofInt 8 &&& 31)).toInt) (by decide +kernel) rfl (Int32.ofInt_toInt _).symm ?_
    refine ds_bipush (n := 9) (p := 193) (by decide +kernel) rfl dkb_9 ?_
    obtain ⟨z9, h⟩ := fx_gd h
    refine ds_irem (p := 194) (c := Int32.ofInt ((Int32.ofInt x12 >>> (Int32.ofInt 8 &&& 31)).toInt % 9)) (by decide +kernel) rfl (gc_nz rfl (x := ((Int32.ofInt x12 >>> (Int32.ofInt 8 &&& 31)).toInt)) ⟨z9.1, z9.2, by decide, by decide⟩) (ga_rem rfl rfl ⟨z9.1, z9.2, by decide, by decide⟩) ?_
    obtain ⟨z10, h⟩ := fx_gd h
    by_cases c11 : ¬ ((Int32.ofInt x12 >>> (Int32.ofInt 8 &&& 31)).toInt % 9) = 0
    · rw [if_pos c11] at h
      refine ds_if_ne_t (off := 8) (t := 202) (by decide +kernel) (by decide +kernel) ((gc_ne rfl rfl z10 (by decide)).mpr c11) ?_
      refine ds_iload (k := 12) (p := 204) (by decide +kernel) rfl rfl ?_
      refine ds_bipush (n := 12) (p := 206) (by decide +kernel) rfl dkb_12 ?_
      refine ds_ishr (p := 207) (c := Int32.ofInt (Int32.ofInt x12 >>> (Int32.ofInt 12 &&& 31)).toInt) (by decide +kernel) rfl (Int32.ofInt_toInt _).symm ?_
      refine ds_iload (k := 9) (p := 209) (by decide +kernel) rfl rfl ?_
      obtain ⟨z12, h⟩ := fx_gd h
      refine ds_irem (p := 210) (c := Int32.ofInt ((Int32.ofInt x12 >>> (Int32.ofInt 12 &&& 31)).toInt % x9)) (by decide +kernel) rfl (gc_nz rfl (x := ((Int32.ofInt x12 >>> (Int32.ofInt 12 &&& 31)).toInt)) z12) (ga_rem rfl rfl z12) ?_
      exact de_240_210 hz hd hk_107 _ _ _ _ _ _ _ _ _ _ _ _ _ _ _ _ _ h
    · rw [if_neg c11] at h
      refine ds_if_ne_f (off := 8) (t := 202) (p := 197) (by decide +kernel) (by decide +kernel) rfl (fun q => c11 ((gc_ne rfl rfl z10 (by decide)).mp q)) ?_
      refine ds_bipush (n := 8) (p := 199) (by decide +kernel) rfl dkb_8 ?_
      refine ds_goto (off := 11) (p := 210) (by decide +kernel) (by decide +kernel) ?_
      exact de_240_210 hz hd hk_107 _ _ _ _ _ _ _ _ _ _ _ _ _ _ _ _ _ h
  · rw [if_neg c8] at h
    refine ds_if_ne_f (off := 14) (t := 186) (p := 175) (by decide +kernel) (by decide +kernel) rfl (fun q => c8 ((gc_ne rfl rfl (gs_r _) (by decide)).mp q)) ?_
    refine ds_aload (k := 6) (p := 177) (by decide +kernel) rfl rfl ?_
    obtain ⟨v13, w14, h⟩ := fx_bd h
    refine ds_gfr (idx := 55) (ci := 10) (j := 4) (p := 180) (by decide +kernel) rfl (by decide +kernel) z5 w14 ?_
    refine ds_iload (k := 11) (p := 182) (by decide +kernel) rfl rfl ?_
    obtain ⟨z15, h⟩ := fx_gd h
    obtain ⟨z16, h⟩ := fx_gd h
    refine ds_iaload (p := 183) (by decide +kernel) rfl z15 z16 ?_
    refine ds_goto (off := 27) (p := 210) (by decide +kernel) (by decide +kernel) ?_
    exact de_240_210 hz hd hk_107 _ _ _ _ _ _ _ _ _ _ _ _ _ _ _ _ _ h
def dm_240_107 (L : Nat) (xs : Nat → Int32) : Nat → Int → Nat → Int → Int → Int → Int → Int → gx_S → dS → Option (Nat × DS)
  | 0, _, _, _, _, _, _, _, _, _ => none
  | n + 1, x2, x6, x7, x8, x9, x10, x11, s, δ =>
    if (-2147483648 ≤ x11 ∧ x11 ≤ 2147483647) then (
    if (-2147483648 ≤ x8 ∧ x8 ≤ 2147483647) then (
    if x8 ≤ x11 then (
      if dO δ x6 10 then (
      (δ.P x6 4).bind fun v5 =>
      (dm_239 L xs v5 (δ.I x6 1) 1 s δ).bind fun q7 =>
      (dm_237 L xs q7.1 q7.2.1 q7.2.2).bind fun q9 =>
      (gm_87 0 q9.2.1).bind fun q11 =>
      if (-2147483648 ≤ q11.1 ∧ q11.1 ≤ 2147483647) then (
      if q11.1 = x8 then (
        if dO q9.2.2 x6 10 then (
        (q9.2.2.P x6 5).bind fun v16 =>
        (dm_239 L xs v16 (q9.2.2.I x6 1) 1 q11.2 q9.2.2).bind fun q18 =>
        (dm_237 L xs q18.1 q18.2.1 q18.2.2).bind fun q20 =>
        (gm_87 1 q20.2.1).bind fun q22 =>
        if (-2147483648 ≤ q22.1 ∧ q22.1 ≤ 2147483647) then (
        if q22.1 = x8 then (
          if dO q20.2.2 x6 10 then (
          (q20.2.2.P x6 6).bind fun v27 =>
          (dm_239 L xs v27 (q20.2.2.I x6 1) 0 q22.2 q20.2.2).bind fun q29 =>
          (dm_237 L xs q29.1 q29.2.1 q29.2.2).bind fun q31 =>
          (gm_87 2 q31.2.1).bind fun q33 =>
          if (-2147483648 ≤ q33.1 ∧ q33.1 ≤ 2147483647) then (
          if q33.1 = x8 then (
            dm_240_329 L xs 100000 x6 0 q33.2 q31.2.2) else (
            none)) else none) else none) else (
          none)) else none) else none) else (
        none)) else none) else none) else (
      (dm_238 L xs ((x2 + 1) + x11) s δ).bind fun q37 =>
      if dO q37.2.2 x6 10 then (
      (q37.2.2.P x6 4).bind fun v40 =>
      if 0 ≤ (Int32.ofInt q37.1 ^^^ Int32.ofInt x7).toInt ∧ (Int32.ofInt q37.1 ^^^ Int32.ofInt x7).toInt ≤ 2147483647 then (
      if (-2147483648 ≤ ((Int32.ofInt q37.1 ^^^ Int32.ofInt x7).toInt % 11) ∧ ((Int32.ofInt q37.1 ^^^ Int32.ofInt x7).toInt % 11) ≤ 2147483647) then (
      if ¬ ((Int32.ofInt q37.1 ^^^ Int32.ofInt x7).toInt % 11) = 0 then (
        if 0 ≤ (Int32.ofInt ((Int32.ofInt q37.1 ^^^ Int32.ofInt x7).toInt) >>> (Int32.ofInt 4 &&& 31)).toInt ∧ (Int32.ofInt ((Int32.ofInt q37.1 ^^^ Int32.ofInt x7).toInt) >>> (Int32.ofInt 4 &&& 31)).toInt ≤ 2147483647 ∧ 0 < x9 ∧ x9 ≤ 2147483647 then (
        dm_240_156 L xs (dm_240_107 L xs n) x2 x6 x7 x8 x9 x10 x11 ((Int32.ofInt q37.1 ^^^ Int32.ofInt x7).toInt) v40 x11 ((Int32.ofInt ((Int32.ofInt q37.1 ^^^ Int32.ofInt x7).toInt) >>> (Int32.ofInt 4 &&& 31)).toInt % x9) q37.2.1 q37.2.2) else none) else (
        dm_240_156 L xs (dm_240_107 L xs n) x2 x6 x7 x8 x9 x10 x11 ((Int32.ofInt q37.1 ^^^ Int32.ofInt x7).toInt) v40 x11 8 q37.2.1 q37.2.2)) else none) else none) else none)) else none) else none
theorem de_240_107 {z : iv_Z} {L : Nat} {xs : Nat → Int32} (hz : dZ z L xs) {d : Nat} (hd : 7 ≤ d) : ∀ (n : Nat) (x2 : Int) (x6 : Nat) (x7 : Int) (x8 : Int) (x9 : Int) (x10 : Int) (x11 : Int) (o3 : Option Value) (o4 : Option Value) (o5 : Option Value) (o12 : Option Value) (s : gx_S) (δ : dS) (q : Nat × DS), dm_240_107 L xs n x2 x6 x7 x8 x9 x10 x11 s δ = some q → dE z 240 d 107 [some (.ref 0), some (.retAddr 0), some (.int (Int32.ofInt x2)), o3, o4, o5, some (.ref x6), some (.int (Int32.ofInt x7)), some (.int (Int32.ofInt x8)), some (.int (Int32.ofInt x9)), some (.int (Int32.ofInt x10)), some (.int (Int32.ofInt x11)), o12] [] (s, δ) (some (.ref q.1)) q.2 := by
  intro n
  induction n with
  | zero =>
    intro x2 x6 x7 x8 x9 x10 x11 o3 o4 o5 o12 s δ q h
    rw [dm_240_107] at h
    exact fx_no h
  | succ n ih =>
    intro x2 x6 x7 x8 x9 x10 x11 o3 o4 o5 o12 s δ q h
    rw [dm_240_107] at h
    refine ds_iload (k := 11) (p := 109) (by decide +kernel) rfl rfl ?_
    refine ds_iload (k := 8) (p := 111) (by decide +kernel) rfl rfl ?_
    obtain ⟨z1, h⟩ := fx_gd h
    obtain ⟨z2, h⟩ := fx_gd h
    by_cases c3 : x8 ≤ x11
    · rw [if_pos c3] at h
      refine ds_icmp_ge_t (off := 122) (t := 233) (by decide +kernel) (by decide +kernel) ((gc_le rfl rfl z2 z1).mpr c3) ?_
      refine ds_aload_n (k := 0) (p := 234) (by decide +kernel) rfl rfl ?_
      refine ds_aload (k := 6) (p := 236) (by decide +kernel) rfl rfl ?_
      obtain ⟨z4, h⟩ := fx_gd h
      obtain ⟨v5, w6, h⟩ := fx_bd h
      refine ds_gfr (idx := 55) (ci := 10) (j := 4) (p := 239) (by decide +kernel) rfl (by decide +kernel) z4 w6 ?_
      refine ds_aload (k := 6) (p := 241) (by decide +kernel) rfl rfl ?_
      refine ds_gfi (idx := 52) (ci := 10) (j := 1) (p := 244) (by decide +kernel) rfl (by decide +kernel) z4 ?_
      refine ds_iconst (n := 1) (p := 245) (by decide +kernel) rfl rfl ?_
      obtain ⟨q7, w8, h⟩ := fx_bd h
      refine ds_callS (idx := 65) (mj := 239) (na := 3) (mx := 5) (p := 248) (args := [.ref v5, .int (Int32.ofInt (δ.I x6 1)), .int (Int32.ofInt 1)]) (rest := [.ref 0]) (al2 := [some (.ref v5), some (.int (Int32.ofInt (δ.I x6 1))), some (.int (Int32.ofInt 1)), none, none]) (S2 := q7.2) (by decide +kernel) rfl (by decide +kernel) rfl rfl rfl rfl rfl rfl (by omega) (fun d' hd' => de_239 hz (by omega) w8) rfl ?_
      obtain ⟨q9, w10, h⟩ := fx_bd h
      refine ds_callS (idx := 69) (mj := 237) (na := 2) (mx := 5) (p := 251) (args := [.ref 0, .ref q7.1]) (rest := []) (al2 := [some (.ref 0), some (.ref q7.1), none, none, none]) (S2 := q9.2) (by decide +kernel) rfl (by decide +kernel) rfl rfl rfl rfl rfl rfl (by omega) (fun d' hd' => de_237 hz (by omega) w10) rfl ?_
      refine ds_pop (p := 252) (by decide +kernel) rfl rfl ?_
      refine ds_aload_n (k := 0) (p := 253) (by decide +kernel) rfl rfl ?_
      refine ds_iconst (n := 0) (p := 254) (by decide +kernel) rfl rfl ?_
      obtain ⟨q11, w12, h⟩ := fx_bd h
      refine ds_callV (idx := 73) (mj := 87) (ci := 9) (na := 1) (mx := 3) (p := 257) (args := [.ref 0, .int (Int32.ofInt 0)]) (rest := []) (al2 := [some (.ref 0), some (.int (Int32.ofInt 0)), none]) (S2 := (q11.2, q9.2.2)) (by decide +kernel) rfl (by decide +kernel) (Or.inl ⟨_, rfl, Or.inr fo_0⟩) rfl rfl rfl rfl rfl rfl (by omega) (fun d' hd' => dx_cls (fe_87 (by omega) (gf_87 rfl rfl w12))) rfl ?_
      refine ds_iload (k := 8) (p := 259) (by decide +kernel) rfl rfl ?_
      obtain ⟨z13, h⟩ := fx_gd h
      by_cases c14 : q11.1 = x8
      · rw [if_pos c14] at h
        refine ds_icmp_eq_t (off := 5) (t := 264) (by decide +kernel) (by decide +kernel) ((gc_eq rfl rfl z13 z2).mpr c14) ?_
        refine ds_aload_n (k := 0) (p := 265) (by decide +kernel) rfl rfl ?_
        refine ds_aload (k := 6) (p := 267) (by decide +kernel) rfl rfl ?_
        obtain ⟨z15, h⟩ := fx_gd h
        obtain ⟨v16, w17, h⟩ := fx_bd h
        refine ds_gfr (idx := 59) (ci := 10) (j := 5) (p := 270) (by decide +kernel) rfl (by decide +kernel) z15 w17 ?_
        refine ds_aload (k := 6) (p := 272) (by decide +kernel) rfl rfl ?_
        refine ds_gfi (idx := 52) (ci := 10) (j := 1) (p := 275) (by decide +kernel) rfl (by decide +kernel) z15 ?_
        refine ds_iconst (n := 1) (p := 276) (by decide +kernel) rfl rfl ?_
        obtain ⟨q18, w19, h⟩ := fx_bd h
        refine ds_callS (idx := 65) (mj := 239) (na := 3) (mx := 5) (p := 279) (args := [.ref v16, .int (Int32.ofInt (q9.2.2.I x6 1)), .int (Int32.ofInt 1)]) (rest := [.ref 0]) (al2 := [some (.ref v16), some (.int (Int32.ofInt (q9.2.2.I x6 1))), some (.int (Int32.ofInt 1)), none, none]) (S2 := q18.2) (by decide +kernel) rfl (by decide +kernel) rfl rfl rfl rfl rfl rfl (by omega) (fun d' hd' => de_239 hz (by omega) w19) rfl ?_
        obtain ⟨q20, w21, h⟩ := fx_bd h
        refine ds_callS (idx := 69) (mj := 237) (na := 2) (mx := 5) (p := 282) (args := [.ref 0, .ref q18.1]) (rest := []) (al2 := [some (.ref 0), some (.ref q18.1), none, none, none]) (S2 := q20.2) (by decide +kernel) rfl (by decide +kernel) rfl rfl rfl rfl rfl rfl (by omega) (fun d' hd' => de_237 hz (by omega) w21) rfl ?_
        refine ds_pop (p := 283) (by decide +kernel) rfl rfl ?_
        refine ds_aload_n (k := 0) (p := 284) (by decide +kernel) rfl rfl ?_
        refine ds_iconst (n := 1) (p := 285) (by decide +kernel) rfl rfl ?_
        obtain ⟨q22, w23, h⟩ := fx_bd h
        refine ds_callV (idx := 73) (mj := 87) (ci := 9) (na := 1) (mx := 3) (p := 288) (args := [.ref 0, .int (Int32.ofInt 1)]) (rest := []) (al2 := [some (.ref 0), some (.int (Int32.ofInt 1)), none]) (S2 := (q22.2, q20.2.2)) (by decide +kernel) rfl (by decide +kernel) (Or.inl ⟨_, rfl, Or.inr fo_0⟩) rfl rfl rfl rfl rfl rfl (by omega) (fun d' hd' => dx_cls (fe_87 (by omega) (gf_87 rfl rfl w23))) rfl ?_
        refine ds_iload (k := 8) (p := 290) (by decide +kernel) rfl rfl ?_
        obtain ⟨z24, h⟩ := fx_gd h
        by_cases c25 : q22.1 = x8
        · rw [if_pos c25] at h
          refine ds_icmp_eq_t (off := 5) (t := 295) (by decide +kernel) (by decide +kernel) ((gc_eq rfl rfl z24 z2).mpr c25) ?_
          refine ds_aload_n (k := 0) (p := 296) (by decide +kernel) rfl rfl ?_
          refine ds_aload (k := 6) (p := 298) (by decide +kernel) rfl rfl ?_
          obtain ⟨z26, h⟩ := fx_gd h
          obtain ⟨v27, w28, h⟩ := fx_bd h
          refine ds_gfr (idx := 62) (ci := 10) (j := 6) (p := 301) (by decide +kernel) rfl (by decide +kernel) z26 w28 ?_
          refine ds_aload (k := 6) (p := 303) (by decide +kernel) rfl rfl ?_
          refine ds_gfi (idx := 52) (ci := 10) (j := 1) (p := 306) (by decide +kernel) rfl (by decide +kernel) z26 ?_
          refine ds_iconst (n := 0) (p := 307) (by decide +kernel) rfl rfl ?_
          obtain ⟨q29, w30, h⟩ := fx_bd h
          refine ds_callS (idx := 65) (mj := 239) (na := 3) (mx := 5) (p := 310) (args := [.ref v27, .int (Int32.ofInt (q20.2.2.I x6 1)), .int (Int32.ofInt 0)]) (rest := [.ref 0]) (al2 := [some (.ref v27), some (.int (Int32.ofInt (q20.2.2.I x6 1))), some (.int (Int32.ofInt 0)), none, none]) (S2 := q29.2) (by decide +kernel) rfl (by decide +kernel) rfl rfl rfl rfl rfl rfl (by omega) (fun d' hd' => de_239 hz (by omega) w30) rfl ?_
          obtain ⟨q31, w32, h⟩ := fx_bd h
          refine ds_callS (idx := 69) (mj := 237) (na := 2) (mx := 5) (p := 313) (args := [.ref 0, .ref q29.1]) (rest := []) (al2 := [some (.ref 0), some (.ref q29.1), none, none, none]) (S2 := q31.2) (by decide +kernel) rfl (by decide +kernel) rfl rfl rfl rfl rfl rfl (by omega) (fun d' hd' => de_237 hz (by omega) w32) rfl ?_
          refine ds_pop (p := 314) (by decide +kernel) rfl rfl ?_
          refine ds_aload_n (k := 0) (p := 315) (by decide +kernel) rfl rfl ?_
          refine ds_iconst (n := 2) (p := 316) (by decide +kernel) rfl rfl ?_
          obtain ⟨q33, w34, h⟩ := fx_bd h
          refine ds_callV (idx := 73) (mj := 87) (ci := 9) (na := 1) (mx := 3) (p := 319) (args := [.ref 0, .int (Int32.ofInt 2)]) (rest := []) (al2 := [some (.ref 0), some (.int (Int32.ofInt 2)), none]) (S2 := (q33.2, q31.2.2)) (by decide +kernel) rfl (by decide +kernel) (Or.inl ⟨_, rfl, Or.inr fo_0⟩) rfl rfl rfl rfl rfl rfl (by omega) (fun d' hd' => dx_cls (fe_87 (by omega) (gf_87 rfl rfl w34))) rfl ?_
          refine ds_iload (k := 8) (p := 321) (by decide +kernel) rfl rfl ?_
          obtain ⟨z35, h⟩ := fx_gd h
          by_cases c36 : q33.1 = x8
          · rw [if_pos c36] at h
            refine ds_icmp_eq_t (off := 5) (t := 326) (by decide +kernel) (by decide +kernel) ((gc_eq rfl rfl z35 z2).mpr c36) ?_
            refine ds_iconst (n := 0) (p := 327) (by decide +kernel) rfl rfl ?_
            refine ds_istore (k := 11) (p := 329) (M := 13) (al' := [some (.ref 0), some (.retAddr 0), some (.int (Int32.ofInt x2)), o3, o4, o5, some (.ref x6), some (.int (Int32.ofInt x7)), some (.int (Int32.ofInt x8)), some (.int (Int32.ofInt x9)), some (.int (Int32.ofInt x10)), some (.int (Int32.ofInt 0)), o12]) (by decide +kernel) rfl mx_240 rfl rfl ?_
            exact de_240_329 hz hd 100000 _ _ _ _ _ _ _ _ _ _ _ _ _ _ _ _ h
          · rw [if_neg c36] at h
            refine ds_icmp_eq_f (off := 5) (t := 326) (p := 324) (by decide +kernel) (by decide +kernel) rfl (fun q => c36 ((gc_eq rfl rfl z35 z2).mp q)) ?_
            exact fx_no h
        · rw [if_neg c25] at h
          refine ds_icmp_eq_f (off := 5) (t := 295) (p := 293) (by decide +kernel) (by decide +kernel) rfl (fun q => c25 ((gc_eq rfl rfl z24 z2).mp q)) ?_
          exact fx_no h
      · rw [if_neg c14] at h
        refine ds_icmp_eq_f (off := 5) (t := 264) (p := 262) (by decide +kernel) (by decide +kernel) rfl (fun q => c14 ((gc_eq rfl rfl z13 z2).mp q)) ?_
        exact fx_no h
    · rw [if_neg c3] at h
      refine ds_icmp_ge_f (off := 122) (t := 233) (p := 114) (by decide +kernel) (by decide +kernel) rfl (fun q => c3 ((gc_le rfl rfl z2 z1).mp q)) ?_
      refine ds_aload_n_a (k := 1) (p := 115) (by decide +kernel) rfl rfl ?_
      refine ds_iload_n (k := 2) (p := 116) (by decide +kernel) rfl rfl ?_
      refine ds_iconst (n := 1) (p := 117) (by decide +kernel) rfl rfl ?_
      refine ds_iadd (p := 118) (c := Int32.ofInt (x2 + 1)) (by decide +kernel) rfl (ga_add rfl rfl) ?_
      refine ds_iload (k := 11) (p := 120) (by decide +kernel) rfl rfl ?_
      refine ds_iadd (p := 121) (c := Int32.ofInt ((x2 + 1) + x11)) (by decide +kernel) rfl (ga_add rfl rfl) ?_
      obtain ⟨q37, w38, h⟩ := fx_bd h
      refine ds_callS (idx := 42) (mj := 238) (na := 2) (mx := 2) (p := 124) (args := [.retAddr 0, .int (Int32.ofInt ((x2 + 1) + x11))]) (rest := []) (al2 := [some (.retAddr 0), some (.int (Int32.ofInt ((x2 + 1) + x11)))]) (S2 := q37.2) (by decide +kernel) rfl (by decide +kernel) rfl rfl rfl rfl rfl rfl (by omega) (fun d' hd' => de_238 hz (by omega) w38) rfl ?_
      refine ds_iload (k := 7) (p := 126) (by decide +kernel) rfl rfl ?_
      refine ds_ixor (p := 127) (c := Int32.ofInt (Int32.ofInt q37.1 ^^^ Int32.ofInt x7).toInt) (by decide +kernel) rfl (Int32.ofInt_toInt _).symm ?_
      refine ds_istore (k := 12) (p := 129) (M := 13) (al' := [some (.ref 0), some (.retAddr 0), some (.int (Int32.ofInt x2)), o3, o4, o5, some (.ref x6), some (.int (Int32.ofInt x7)), some (.int (Int32.ofInt x8)), some (.int (Int32.ofInt x9)), some (.int (Int32.ofInt x10)), some (.int (Int32.ofInt x11)), some (.int (Int32.ofInt ((Int32.ofInt q37.1 ^^^ Int32.ofInt x7).toInt)))]) (by decide +kernel) rfl mx_240 rfl rfl ?_
      refine ds_aload (k := 6) (p := 131) (by decide +kernel) rfl rfl ?_
      obtain ⟨z39, h⟩ := fx_gd h
      obtain ⟨v40, w41, h⟩ := fx_bd h
      refine ds_gfr (idx := 55) (ci := 10) (j := 4) (p := 134) (by decide +kernel) rfl (by decide +kernel) z39 w41 ?_
      refine ds_iload (k := 11) (p := 136) (by decide +kernel) rfl rfl ?_
      refine ds_iload (k := 12) (p := 138) (by decide +kernel) rfl rfl ?_
      refine ds_bipush (n := 11) (p := 140) (by decide +kernel) rfl dkb_11 ?_
      obtain ⟨z42, h⟩ := fx_gd h
      refine ds_irem (p := 141) (c := Int32.ofInt ((Int32.ofInt q37.1 ^^^ Int32.ofInt x7).toInt % 11)) (by decide +kernel) rfl (gc_nz rfl (x := ((Int32.ofInt q37.1 ^^^ Int32.ofInt x7).toInt)) ⟨z42.1, z42.2, by decide, by decide⟩) (ga_rem rfl rfl ⟨z42.1, z42.2, by decide, by decide⟩) ?_
      obtain ⟨z43, h⟩ := fx_gd h
      by_cases c44 : ¬ ((Int32.ofInt q37.1 ^^^ Int32.ofInt x7).toInt % 11) = 0
      · rw [if_pos c44] at h
        refine ds_if_ne_t (off := 8) (t := 149) (by decide +kernel) (by decide +kernel) ((gc_ne rfl rfl z43 (by decide)).mpr c44) ?_
        refine ds_iload (k := 12) (p := 151) (by decide +kernel) rfl rfl ?_
        refine ds_iconst (n := 4) (p := 152) (by decide +kernel) rfl rfl ?_
        refine ds_ishr (p := 153) (c := Int32.ofInt (Int32.ofInt ((Int32.ofInt q37.1 ^^^ Int32.ofInt x7).toInt) >>> (Int32.ofInt 4 &&& 31)).toInt) (by decide +kernel) rfl (Int32.ofInt_toInt _).symm ?_
        refine ds_iload (k := 9) (p := 155) (by decide +kernel) rfl rfl ?_
        obtain ⟨z45, h⟩ := fx_gd h
        refine ds_irem (p := 156) (c := Int32.ofInt ((Int32.ofInt ((Int32.ofInt q37.1 ^^^ Int32.ofInt x7).toInt) >>> (Int32.ofInt 4 &&& 31)).toInt % x9)) (by decide +kernel) rfl (gc_nz rfl (x := ((Int32.ofInt ((Int32.ofInt q37.1 ^^^ Int32.ofInt x7).toInt) >>> (Int32.ofInt 4 &&& 31)).toInt)) z45) (ga_rem rfl rfl z45) ?_
        exact de_240_156 hz hd ih _ _ _ _ _ _ _ _ _ _ _ _ _ _ _ _ _ h
      · rw [if_neg c44] at h
        refine ds_if_ne_f (off := 8) (t := 149) (p := 144) (by decide +kernel) (by decide +kernel) rfl (fun q => c44 ((gc_ne rfl rfl z43 (by decide)).mp q)) ?_
        refine ds_bipush (n := 8) (p := 146) (by decide +kernel) rfl dkb_8 ?_
        refine ds_goto (off := 10) (p := 156) (by decide +kernel) (by decide +kernel) ?_
        exact de_240_156 hz hd ih _ _ _ _ _ _ _ _ _ _ _ _ _ _ _ _ _ h
def dm_240 (L : Nat) (xs : Nat → Int32) (x2 : Int) (x3 : Int) (x4 : Int) (x5 : Int) (s : gx_S) (δ : dS) : Option (Nat × DS) :=
  (some (δ.al (100 + 10) (dnf 10))).bind fun t1 =>
  if dO t1 δ.n 10 then (
  (dm_256 δ.n s t1).bind fun q3 =>
  (dm_238 L xs x2 q3.1 q3.2).bind fun q6 =>
  if 0 ≤ q6.1 ∧ q6.1 ≤ 2147483647 ∧ 0 < x3 ∧ x3 ≤ 2147483647 then (
  if dO q6.2.2 δ.n 10 then (
  (some (q6.2.2.w δ.n 0 (1 + (q6.1 % x3)))).bind fun t10 =>
  if 0 ≤ (Int32.ofInt q6.1 >>> (Int32.ofInt 4 &&& 31)).toInt ∧ (Int32.ofInt q6.1 >>> (Int32.ofInt 4 &&& 31)).toInt ≤ 2147483647 ∧ 0 < x4 ∧ x4 ≤ 2147483647 then (
  if dO t10 δ.n 10 then (
  (some (t10.w δ.n 1 (1 + ((Int32.ofInt q6.1 >>> (Int32.ofInt 4 &&& 31)).toInt % x4)))).bind fun t14 =>
  if dO t14 δ.n 10 then (
  if 0 ≤ ((t14.I δ.n 0) * (t14.I δ.n 1)) ∧ ((t14.I δ.n 0) * (t14.I δ.n 1)) ≤ 60000000 then (
  (some (t14.al 0 (((t14.I δ.n 0) * (t14.I δ.n 1))).toNat)).bind fun t18 =>
  if dO t18 δ.n 10 then (
  (some (t18.r δ.n 4 (some t14.n))).bind fun t21 =>
  (some (t21.al 0 (((t14.I δ.n 0) * (t14.I δ.n 1))).toNat)).bind fun t23 =>
  if dO t23 δ.n 10 then (
  (some (t23.r δ.n 5 (some t21.n))).bind fun t26 =>
  (some (t26.al 0 (((t14.I δ.n 0) * (t14.I δ.n 1))).toNat)).bind fun t28 =>
  if dO t28 δ.n 10 then (
  (some (t28.r δ.n 6 (some t26.n))).bind fun t31 =>
  if 0 ≤ (Int32.ofInt q6.1 >>> (Int32.ofInt 9 &&& 31)).toInt ∧ (Int32.ofInt q6.1 >>> (Int32.ofInt 9 &&& 31)).toInt ≤ 2147483647 ∧ 0 < x5 ∧ x5 ≤ 2147483647 then (
  dm_240_107 L xs 100000 x2 δ.n q6.1 ((t14.I δ.n 0) * (t14.I δ.n 1)) (1 + ((Int32.ofInt q6.1 >>> (Int32.ofInt 9 &&& 31)).toInt % x5)) (1 + (Int32.ofInt ((Int32.ofInt q6.1 >>> (Int32.ofInt 13 &&& 31)).toInt) &&& Int32.ofInt 3).toInt) 0 q6.2.1 t31) else none) else none) else none) else none) else none) else none) else none) else none) else none) else none) else none
theorem de_240 {z : iv_Z} {L : Nat} {xs : Nat → Int32} (hz : dZ z L xs) {d : Nat} (hd : 7 ≤ d) {x2 : Int} {x3 : Int} {x4 : Int} {x5 : Int} {s : gx_S} {δ : dS} {q : Nat × DS} (h : dm_240 L xs x2 x3 x4 x5 s δ = some q) : dE z 240 d 0 [some (.ref 0), some (.retAddr 0), some (.int (Int32.ofInt x2)), some (.int (Int32.ofInt x3)), some (.int (Int32.ofInt x4)), some (.int (Int32.ofInt x5)), none, none, none, none, none, none, none] [] (s, δ) (some (.ref q.1)) q.2 := by
  unfold dm_240 at h
  obtain ⟨t1, w2, h⟩ := fx_bd h
  refine ds_new (idx := 39) (ci := 10) (p := 3) (by decide +kernel) rfl (by decide +kernel) (by decide +kernel) ?_
  rw [Option.some.inj w2]
  refine ds_dup (p := 4) (by decide +kernel) rfl rfl ?_
  obtain ⟨z5, h⟩ := fx_gd h
  obtain ⟨q3, w4, h⟩ := fx_bd h
  refine ds_callP (idx := 41) (mj := 256) (ci := 10) (na := 0) (mx := 1) (p := 7) (args := [.ref δ.n]) (rest := [.ref δ.n]) (al2 := [some (.ref δ.n)]) (S2 := q3) (by decide +kernel) rfl (by decide +kernel) (Or.inl ⟨_, rfl, Or.inl z5⟩) rfl rfl rfl rfl rfl rfl (by omega) (fun d' hd' => de_256 hz (by omega) w4) rfl ?_
  refine ds_astore (k := 6) (p := 9) (M := 13) (al' := [some (.ref 0), some (.retAddr 0), some (.int (Int32.ofInt x2)), some (.int (Int32.ofInt x3)), some (.int (Int32.ofInt x4)), some (.int (Int32.ofInt x5)), some (.ref δ.n), none, none, none, none, none, none]) (by decide +kernel) rfl mx_240 rfl rfl ?_
  refine ds_aload_n_a (k := 1) (p := 10) (by decide +kernel) rfl rfl ?_
  refine ds_iload_n (k := 2) (p := 11) (by decide +kernel) rfl rfl ?_
  obtain ⟨q6, w7, h⟩ := fx_bd h
  refine ds_callS (idx := 42) (mj := 238) (na := 2) (mx := 2) (p := 14) (args := [.retAddr 0, .int (Int32.ofInt x2)]) (rest := []) (al2 := [some (.retAddr 0), some (.int (Int32.ofInt x2))]) (S2 := q6.2) (by decide +kernel) rfl (by decide +kernel) rfl rfl rfl rfl rfl rfl (by omega) (fun d' hd' => de_238 hz (by omega) w7) rfl ?_
  refine ds_istore (k := 7) (p := 16) (M := 13) (al' := [some (.ref 0), some (.retAddr 0), some (.int (Int32.ofInt x2)), some (.int (Int32.ofInt x3)), some (.int (Int32.ofInt x4)), some (.int (Int32.ofInt x5)), some (.ref δ.n), some (.int (Int32.ofInt q6.1)), none, none, none, none, none]) (by decide +kernel) rfl mx_240 rfl rfl ?_
  refine ds_aload (k := 6) (p := 18) (by decide +kernel) rfl rfl ?_
  refine ds_iconst (n := 1) (p := 19) (by decide +kernel) rfl rfl ?_
  refine ds_iload (k := 7) (p := 21) (by decide +kernel) rfl rfl ?_
  refine ds_iload_n (k := 3) (p := 22) (by decide +kernel) rfl rfl ?_
  obtain ⟨z8, h⟩ := fx_gd h
  refine ds_irem (p := 23) (c := Int32.ofInt (q6.1 % x3)) (by decide +kernel) rfl (gc_nz rfl (x := q6.1) z8) (ga_rem rfl rfl z8) ?_
  refine ds_iadd (p := 24) (c := Int32.ofInt (1 + (q6.1 % x3))) (by decide +kernel) rfl (ga_add rfl rfl) ?_
  obtain ⟨z9, h⟩ := fx_gd h
  obtain ⟨t10, w11, h⟩ := fx_bd h
  refine ds_pfi (idx := 48) (ci := 10) (j := 0) (p := 27) (by decide +kernel) rfl (by decide +kernel) (by decide +kernel) z9 (fx_oki _ (by decide +kernel)) ?_
  rw [Option.some.inj w11]
  refine ds_aload (k := 6) (p := 29) (by decide +kernel) rfl rfl ?_
  refine ds_iconst (n := 1) (p := 30) (by decide +kernel) rfl rfl ?_
  refine ds_iload (k := 7) (p := 32) (by decide +kernel) rfl rfl ?_
  refine ds_iconst (n := 4) (p := 33) (by decide +kernel) rfl rfl ?_
  refine ds_ishr (p := 34) (c := Int32.ofInt (Int32.ofInt q6.1 >>> (Int32.ofInt 4 &&& 31)).toInt) (by decide +kernel) rfl (Int32.ofInt_toInt _).symm ?_
  refine ds_iload (k := 4) (p := 36) (by decide +kernel) rfl rfl ?_
  obtain ⟨z12, h⟩ := fx_gd h
  refine ds_irem (p := 37) (c := Int32.ofInt ((Int32.ofInt q6.1 >>> (Int32.ofInt 4 &&& 31)).toInt % x4)) (by decide +kernel) rfl (gc_nz rfl (x := ((Int32.ofInt q6.1 >>> (Int32.ofInt 4 &&& 31)).toInt)) z12) (ga_rem rfl rfl z12) ?_
  refine ds_iadd (p := 38) (c := Int32.ofInt (1 + ((Int32.ofInt q6.1 >>> (Int32.ofInt 4 &&& 31)).toInt % x4))) (by decide +kernel) rfl (ga_add rfl rfl) ?_
  obtain ⟨z13, h⟩ := fx_gd h
  obtain ⟨t14, w15, h⟩ := fx_bd h
  refine ds_pfi (idx := 52) (ci := 10) (j := 1) (p := 41) (by decide +kernel) rfl (by decide +kernel) (by decide +kernel) z13 (fx_oki _ (by decide +kernel)) ?_
  rw [Option.some.inj w15]
  refine ds_aload (k := 6) (p := 43) (by decide +kernel) rfl rfl ?_
  obtain ⟨z16, h⟩ := fx_gd h
  refine ds_gfi (idx := 48) (ci := 10) (j := 0) (p := 46) (by decide +kernel) rfl (by decide +kernel) z16 ?_
  refine ds_aload (k := 6) (p := 48) (by decide +kernel) rfl rfl ?_
  refine ds_gfi (idx := 52) (ci := 10) (j := 1) (p := 51) (by decide +kernel) rfl (by decide +kernel) z16 ?_
  refine ds_imul (p := 52) (c := Int32.ofInt ((t14.I δ.n 0) * (t14.I δ.n 1))) (by decide +kernel) rfl (ga_mul rfl rfl) ?_
  refine ds_istore (k := 8) (p := 54) (M := 13) (al' := [some (.ref 0), some (.retAddr 0), some (.int (Int32.ofInt x2)), some (.int (Int32.ofInt x3)), some (.int (Int32.ofInt x4)), some (.int (Int32.ofInt x5)), some (.ref δ.n), some (.int (Int32.ofInt q6.1)), some (.int (Int32.ofInt ((t14.I δ.n 0) * (t14.I δ.n 1)))), none, none, none, none]) (by decide +kernel) rfl mx_240 rfl rfl ?_
  refine ds_aload (k := 6) (p := 56) (by decide +kernel) rfl rfl ?_
  refine ds_iload (k := 8) (p := 58) (by decide +kernel) rfl rfl ?_
  obtain ⟨z17, h⟩ := fx_gd h
  obtain ⟨t18, w19, h⟩ := fx_bd h
  refine ds_newarray (a := .int) (t := 0) (p := 60) (by decide +kernel) rfl (by decide +kernel) (by decide) z17 ?_
  rw [Option.some.inj w19]
  obtain ⟨z20, h⟩ := fx_gd h
  obtain ⟨t21, w22, h⟩ := fx_bd h
  refine ds_pfr (idx := 55) (ci := 10) (j := 4) (p := 63) (by decide +kernel) rfl (by decide +kernel) (by decide +kernel) z20 (dok_r (by decide +kernel)) ?_
  rw [Option.some.inj w22]
  refine ds_aload (k := 6) (p := 65) (by decide +kernel) rfl rfl ?_
  refine ds_iload (k := 8) (p := 67) (by decide +kernel) rfl rfl ?_
  obtain ⟨t23, w24, h⟩ := fx_bd h
  refine ds_newarray (a := .int) (t := 0) (p := 69) (by decide +kernel) rfl (by decide +kernel) (by decide) z17 ?_
  rw [Option.some.inj w24]
  obtain ⟨z25, h⟩ := fx_gd h
  obtain ⟨t26, w27, h⟩ := fx_bd h
  refine ds_pfr (idx := 59) (ci := 10) (j := 5) (p := 72) (by decide +kernel) rfl (by decide +kernel) (by decide +kernel) z25 (dok_r (by decide +kernel)) ?_
  rw [Option.some.inj w27]
  refine ds_aload (k := 6) (p := 74) (by decide +kernel) rfl rfl ?_
  refine ds_iload (k := 8) (p := 76) (by decide +kernel) rfl rfl ?_
  obtain ⟨t28, w29, h⟩ := fx_bd h
  refine ds_newarray (a := .int) (t := 0) (p := 78) (by decide +kernel) rfl (by decide +kernel) (by decide) z17 ?_
  rw [Option.some.inj w29]
  obtain ⟨z30, h⟩ := fx_gd h
  obtain ⟨t31, w32, h⟩ := fx_bd h
  refine ds_pfr (idx := 62) (ci := 10) (j := 6) (p := 81) (by decide +kernel) rfl (by decide +kernel) (by decide +kernel) z30 (dok_r (by decide +kernel)) ?_
  rw [Option.some.inj w32]
  refine ds_iconst (n := 1) (p := 82) (by decide +kernel) rfl rfl ?_
  refine ds_iload (k := 7) (p := 84) (by decide +kernel) rfl rfl ?_
  refine ds_bipush (n := 9) (p := 86) (by decide +kernel) rfl dkb_9 ?_
  refine ds_ishr (p := 87) (c := Int32.ofInt (Int32.ofInt q6.1 >>> (Int32.ofInt 9 &&& 31)).toInt) (by decide +kernel) rfl (Int32.ofInt_toInt _).symm ?_
  refine ds_iload (k := 5) (p := 89) (by decide +kernel) rfl rfl ?_
  obtain ⟨z33, h⟩ := fx_gd h
  refine ds_irem (p := 90) (c := Int32.ofInt ((Int32.ofInt q6.1 >>> (Int32.ofInt 9 &&& 31)).toInt % x5)) (by decide +kernel) rfl (gc_nz rfl (x := ((Int32.ofInt q6.1 >>> (Int32.ofInt 9 &&& 31)).toInt)) z33) (ga_rem rfl rfl z33) ?_
  refine ds_iadd (p := 91) (c := Int32.ofInt (1 + ((Int32.ofInt q6.1 >>> (Int32.ofInt 9 &&& 31)).toInt % x5))) (by decide +kernel) rfl (ga_add rfl rfl) ?_
  refine ds_istore (k := 9) (p := 93) (M := 13) (al' := [some (.ref 0), some (.retAddr 0), some (.int (Int32.ofInt x2)), some (.int (Int32.ofInt x3)), some (.int (Int32.ofInt x4)), some (.int (Int32.ofInt x5)), some (.ref δ.n), some (.int (Int32.ofInt q6.1)), some (.int (Int32.ofInt ((t14.I δ.n 0) * (t14.I δ.n 1)))), some (.int (Int32.ofInt (1 + ((Int32.ofInt q6.1 >>> (Int32.ofInt 9 &&& 31)).toInt % x5)))), none, none, none]) (by decide +kernel) rfl mx_240 rfl rfl ?_
  refine ds_iconst (n := 1) (p := 94) (by decide +kernel) rfl rfl ?_
  refine ds_iload (k := 7) (p := 96) (by decide +kernel) rfl rfl ?_
  refine ds_bipush (n := 13) (p := 98) (by decide +kernel) rfl dkb_13 ?_
  refine ds_ishr (p := 99) (c := Int32.ofInt (Int32.ofInt q6.1 >>> (Int32.ofInt 13 &&& 31)).toInt) (by decide +kernel) rfl (Int32.ofInt_toInt _).symm ?_
  refine ds_iconst (n := 3) (p := 100) (by decide +kernel) rfl rfl ?_
  refine ds_iand (p := 101) (c := Int32.ofInt (Int32.ofInt ((Int32.ofInt q6.1 >>> (Int32.ofInt 13 &&& 31)).toInt) &&& Int32.ofInt 3).toInt) (by decide +kernel) rfl (Int32.ofInt_toInt _).symm ?_
  refine ds_iadd (p := 102) (c := Int32.ofInt (1 + (Int32.ofInt ((Int32.ofInt q6.1 >>> (Int32.ofInt 13 &&& 31)).toInt) &&& Int32.ofInt 3).toInt)) (by decide +kernel) rfl (ga_add rfl rfl) ?_
  refine ds_istore (k := 10) (p := 104) (M := 13) (al' := [some (.ref 0), some (.retAddr 0), some (.int (Int32.ofInt x2)), some (.int (Int32.ofInt x3)), some (.int (Int32.ofInt x4)), some (.int (Int32.ofInt x5)), some (.ref δ.n), some (.int (Int32.ofInt q6.1)), some (.int (Int32.ofInt ((t14.I δ.n 0) * (t14.I δ.n 1)))), some (.int (Int32.ofInt (1 + ((Int32.ofInt q6.1 >>> (Int32.ofInt 9 &&& 31)).toInt % x5)))), some (.int (Int32.ofInt (1 + (Int32.ofInt ((Int32.ofInt q6.1 >>> (Int32.ofInt 13 &&& 31)).toInt) &&& Int32.ofInt 3).toInt))), none, none]) (by decide +kernel) rfl mx_240 rfl rfl ?_
  refine ds_iconst (n := 0) (p := 105) (by decide +kernel) rfl rfl ?_
  refine ds_istore (k := 11) (p := 107) (M := 13) (al' := [some (.ref 0), some (.retAddr 0), some (.int (Int32.ofInt x2)), some (.int (Int32.ofInt x3)), some (.int (Int32.ofInt x4)), some (.int (Int32.ofInt x5)), some (.ref δ.n), some (.int (Int32.ofInt q6.1)), some (.int (Int32.ofInt ((t14.I δ.n 0) * (t14.I δ.n 1)))), some (.int (Int32.ofInt (1 + ((Int32.ofInt q6.1 >>> (Int32.ofInt 9 &&& 31)).toInt % x5)))), some (.int (Int32.ofInt (1 + (Int32.ofInt ((Int32.ofInt q6.1 >>> (Int32.ofInt 13 &&& 31)).toInt) &&& Int32.ofInt 3).toInt))), some (.int (Int32.ofInt 0)), none]) (by decide +kernel) rfl mx_240 rfl rfl ?_
  exact de_240_107 hz hd 100000 _ _ _ _ _ _ _ _ _ _ _ _ _ _ h
/-! java/lang/String.coder()B r5 -/
def dm_282_r5 (s : gx_S) (δ : dS) : Option (Int × DS) :=
  some (0, s, δ)
theorem de_282_r5 {z : iv_Z} {L : Nat} {xs : Nat → Int32} (hz : dZ z L xs) {d : Nat} (hd : 0 ≤ d) {s : gx_S} {δ : dS} {q : Int × DS} (h : dm_282_r5 s δ = some q) : dE z 282 d 0 [some (.retAddr 5)] [] (s, δ) (some (.int (Int32.ofInt q.1))) q.2 := by
  unfold dm_282_r5 at h
  refine ds_gets0 (idx := 38) (p := 3) (by decide +kernel) rfl (by decide +kernel) ?_
  refine ds_if_eq_f (off := 10) (t := 13) (p := 6) (by decide +kernel) (by decide +kernel) rfl (fun q => absurd ((gc_eq (x := 1) (y := 0) rfl rfl (by decide) (by decide)).mp q) (by decide)) ?_
  refine ds_aload_n_a (k := 0) (p := 7) (by decide +kernel) rfl rfl ?_
  refine ds_gfa (idx := 15) (p := 10) (by decide +kernel) rfl (dzf_282_15_5 hz) ?_
  refine ds_goto (off := 4) (p := 14) (by decide +kernel) (by decide +kernel) ?_
  have h := Option.some.inj h
  subst h
  exact ds_iret (by decide +kernel) rt_282 (by decide +kernel)
/-! java/lang/String.length()I r5 -/
def dm_278_r5 (s : gx_S) (δ : dS) : Option (Int × DS) :=
  (dm_282_r5 s δ).bind fun q1 =>
  some ((Int32.ofInt 0 >>> (Int32.ofInt q1.1 &&& 31)).toInt, q1.2.1, q1.2.2)
theorem de_278_r5 {z : iv_Z} {L : Nat} {xs : Nat → Int32} (hz : dZ z L xs) {d : Nat} (hd : 1 ≤ d) {s : gx_S} {δ : dS} {q : Int × DS} (h : dm_278_r5 s δ = some q) : dE z 278 d 0 [some (.retAddr 5)] [] (s, δ) (some (.int (Int32.ofInt q.1))) q.2 := by
  unfold dm_278_r5 at h
  refine ds_aload_n_a (k := 0) (p := 1) (by decide +kernel) rfl rfl ?_
  refine ds_gfa (idx := 9) (p := 4) (by decide +kernel) rfl (dzf_278_9_5 hz) ?_
  refine ds_alen_a (m := 0) (p := 5) (by decide +kernel) rfl (dz_a6 hz) rfl ?_
  refine ds_aload_n_a (k := 0) (p := 6) (by decide +kernel) rfl rfl ?_
  obtain ⟨q1, w2, h⟩ := fx_bd h
  refine ds_callV (idx := 335) (mj := 282) (ci := 12) (na := 0) (mx := 1) (p := 9) (args := [.retAddr 5]) (rest := [.int (Int32.ofInt 0)]) (al2 := [some (.retAddr 5)]) (S2 := q1.2) (by decide +kernel) rfl (by decide +kernel) (Or.inr ⟨_, rfl, dz_o5 hz⟩) rfl rfl rfl rfl rfl rfl (by omega) (fun d' hd' => de_282_r5 hz (by omega) w2) rfl ?_
  refine ds_ishr (p := 10) (c := Int32.ofInt (Int32.ofInt 0 >>> (Int32.ofInt q1.1 &&& 31)).toInt) (by decide +kernel) rfl (Int32.ofInt_toInt _).symm ?_
  have h := Option.some.inj h
  subst h
  exact ds_iret (by decide +kernel) rt_278 rfl
/-! java/lang/AbstractStringBuilder.inflateIfNeededFor(Ljava/lang/String;)V d r5 -/
theorem mx_271 : iv_mx 271 = 2 := by decide +kernel
theorem rt_271 : iv_rt 271 = none := by decide +kernel
def dm_271_r5 (x0 : Nat) (s : gx_S) (δ : dS) : Option (DS) :=
  if dO δ x0 11 then (
  (dm_282_r5 s δ).bind fun q2 =>
  if (-2147483648 ≤ (δ.I x0 1) ∧ (δ.I x0 1) ≤ 2147483647) then (
  if (-2147483648 ≤ q2.1 ∧ q2.1 ≤ 2147483647) then (
  if (δ.I x0 1) = q2.1 then (
    some (q2.2.1, q2.2.2)) else (
    none)) else none) else none) else none
theorem de_271_r5 {z : iv_Z} {L : Nat} {xs : Nat → Int32} (hz : dZ z L xs) {d : Nat} (hd : 1 ≤ d) {x0 : Nat} {s : gx_S} {δ : dS} {q : DS} (h : dm_271_r5 x0 s δ = some q) : dE z 271 d 0 [some (.ref x0), some (.retAddr 5)] [] (s, δ) none q := by
  unfold dm_271_r5 at h
  refine ds_gets0 (idx := 18) (p := 3) (by decide +kernel) rfl (by decide +kernel) ?_
  refine ds_if_eq_f (off := 18) (t := 21) (p := 6) (by decide +kernel) (by decide +kernel) rfl (fun q => absurd ((gc_eq (x := 1) (y := 0) rfl rfl (by decide) (by decide)).mp q) (by decide)) ?_
  refine ds_aload_n (k := 0) (p := 7) (by decide +kernel) rfl rfl ?_
  obtain ⟨z1, h⟩ := fx_gd h
  refine ds_gfi (idx := 22) (ci := 11) (j := 1) (p := 10) (by decide +kernel) rfl (by decide +kernel) z1 ?_
  refine ds_aload_n_a (k := 1) (p := 11) (by decide +kernel) rfl rfl ?_
  obtain ⟨q2, w3, h⟩ := fx_bd h
  refine ds_callV (idx := 40) (mj := 282) (ci := 12) (na := 0) (mx := 1) (p := 14) (args := [.retAddr 5]) (rest := [.int (Int32.ofInt (δ.I x0 1))]) (al2 := [some (.retAddr 5)]) (S2 := q2.2) (by decide +kernel) rfl (by decide +kernel) (Or.inr ⟨_, rfl, dz_o5 hz⟩) rfl rfl rfl rfl rfl rfl (by omega) (fun d' hd' => de_282_r5 hz (by omega) w3) rfl ?_
  obtain ⟨z4, h⟩ := fx_gd h
  obtain ⟨z5, h⟩ := fx_gd h
  by_cases c6 : (δ.I x0 1) = q2.1
  · rw [if_pos c6] at h
    refine ds_icmp_eq_t (off := 7) (t := 21) (by decide +kernel) (by decide +kernel) ((gc_eq rfl rfl z4 z5).mpr c6) ?_
    have h := Option.some.inj h
    subst h
    exact ds_ret (by decide +kernel) rt_271
  · rw [if_neg c6] at h
    refine ds_icmp_eq_f (off := 7) (t := 21) (p := 17) (by decide +kernel) (by decide +kernel) rfl (fun q => c6 ((gc_eq rfl rfl z4 z5).mp q)) ?_
    exact fx_no h
/-! java/lang/String.getBytes([BIB)V r5 d -/
theorem mx_281 : iv_mx 281 = 4 := by decide +kernel
theorem rt_281 : iv_rt 281 = none := by decide +kernel
def dm_281_r5 (x1 : Nat) (x2 : Int) (x3 : Int) (s : gx_S) (δ : dS) : Option (DS) :=
  (dm_282_r5 s δ).bind fun q1 =>
  if (-2147483648 ≤ q1.1 ∧ q1.1 ≤ 2147483647) then (
  if (-2147483648 ≤ x3 ∧ x3 ≤ 2147483647) then (
  if ¬ q1.1 = x3 then (
    none) else (
    if dA q1.2.2 3 x1 then (
    if 0 ≤ (0 : Int) ∧ 0 ≤ (Int32.ofInt x2 <<< (Int32.ofInt x3 &&& 31)).toInt ∧ 0 ≤ (0 : Int) ∧ (0 : Int) + (0 : Int) ≤ (0 : Int) ∧ (Int32.ofInt x2 <<< (Int32.ofInt x3 &&& 31)).toInt + (0 : Int) ≤ ((q1.2.2.sh x1).2 : Int) then (
    (some (q1.2.2.cz dz_6 ((0 : Int).toNat) x1 (((Int32.ofInt x2 <<< (Int32.ofInt x3 &&& 31)).toInt).toNat) ((0 : Int).toNat))).bind fun t8 =>
    some (q1.2.1, t8)) else none) else none)) else none) else none
theorem de_281_r5 {z : iv_Z} {L : Nat} {xs : Nat → Int32} (hz : dZ z L xs) {d : Nat} (hd : 1 ≤ d) {x1 : Nat} {x2 : Int} {x3 : Int} {s : gx_S} {δ : dS} {q : DS} (h : dm_281_r5 x1 x2 x3 s δ = some q) : dE z 281 d 0 [some (.retAddr 5), some (.ref x1), some (.int (Int32.ofInt x2)), some (.int (Int32.ofInt x3))] [] (s, δ) none q := by
  unfold dm_281_r5 at h
  refine ds_aload_n_a (k := 0) (p := 1) (by decide +kernel) rfl rfl ?_
  obtain ⟨q1, w2, h⟩ := fx_bd h
  refine ds_callV (idx := 335) (mj := 282) (ci := 12) (na := 0) (mx := 1) (p := 4) (args := [.retAddr 5]) (rest := []) (al2 := [some (.retAddr 5)]) (S2 := q1.2) (by decide +kernel) rfl (by decide +kernel) (Or.inr ⟨_, rfl, dz_o5 hz⟩) rfl rfl rfl rfl rfl rfl (by omega) (fun d' hd' => de_282_r5 hz (by omega) w2) rfl ?_
  refine ds_iload_n (k := 3) (p := 5) (by decide +kernel) rfl rfl ?_
  obtain ⟨z3, h⟩ := fx_gd h
  obtain ⟨z4, h⟩ := fx_gd h
  by_cases c5 : ¬ q1.1 = x3
  · rw [if_pos c5] at h
    refine ds_icmp_ne_t (off := 23) (t := 28) (by decide +kernel) (by decide +kernel) ((gc_ne rfl rfl z3 z4).mpr c5) ?_
    exact fx_no h
  · rw [if_neg c5] at h
    refine ds_icmp_ne_f (off := 23) (t := 28) (p := 8) (by decide +kernel) (by decide +kernel) rfl (fun q => c5 ((gc_ne rfl rfl z3 z4).mp q)) ?_
    refine ds_aload_n_a (k := 0) (p := 9) (by decide +kernel) rfl rfl ?_
    refine ds_gfa (idx := 9) (p := 12) (by decide +kernel) rfl (dzf_281_9_5 hz) ?_
    refine ds_iconst (n := 0) (p := 13) (by decide +kernel) rfl rfl ?_
    refine ds_aload_n (k := 1) (p := 14) (by decide +kernel) rfl rfl ?_
    refine ds_iload_n (k := 2) (p := 15) (by decide +kernel) rfl rfl ?_
    refine ds_iload_n (k := 3) (p := 16) (by decide +kernel) rfl rfl ?_
    refine ds_ishl (p := 17) (c := Int32.ofInt (Int32.ofInt x2 <<< (Int32.ofInt x3 &&& 31)).toInt) (by decide +kernel) rfl (Int32.ofInt_toInt _).symm ?_
    refine ds_aload_n_a (k := 0) (p := 18) (by decide +kernel) rfl rfl ?_
    refine ds_gfa (idx := 9) (p := 21) (by decide +kernel) rfl (dzf_281_9_5 hz) ?_
    refine ds_alen_a (m := 0) (p := 22) (by decide +kernel) rfl (dz_a6 hz) rfl ?_
    obtain ⟨z6, h⟩ := fx_gd h
    obtain ⟨z7, h⟩ := fx_gd h
    obtain ⟨t8, w9, h⟩ := fx_bd h
    refine ds_cpya (idx := 212) (p := 25) (by decide +kernel) rfl (by decide +kernel) rfl (dz_a6 hz) (dz_n6 hz) z6 z7 ?_
    rw [Option.some.inj w9]
    refine ds_goto (off := 18) (p := 43) (by decide +kernel) (by decide +kernel) ?_
    have h := Option.some.inj h
    subst h
    exact ds_ret (by decide +kernel) rt_281
/-! java/lang/AbstractStringBuilder.putStringAt(ILjava/lang/String;)V d r5 -/
theorem mx_272 : iv_mx 272 = 3 := by decide +kernel
theorem rt_272 : iv_rt 272 = none := by decide +kernel
def dm_272_r5 (x0 : Nat) (x1 : Int) (s : gx_S) (δ : dS) : Option (DS) :=
  if dO δ x0 11 then (
  (dm_271_r5 x0 s δ).bind fun q1 =>
  if dO q1.2 x0 11 then (
  (q1.2.P x0 0).bind fun v5 =>
  (dm_281_r5 v5 x1 (q1.2.I x0 1) q1.1 q1.2).bind fun q7 =>
  some (q7.1, q7.2)) else none) else none
theorem de_272_r5 {z : iv_Z} {L : Nat} {xs : Nat → Int32} (hz : dZ z L xs) {d : Nat} (hd : 2 ≤ d) {x0 : Nat} {x1 : Int} {s : gx_S} {δ : dS} {q : DS} (h : dm_272_r5 x0 x1 s δ = some q) : dE z 272 d 0 [some (.ref x0), some (.int (Int32.ofInt x1)), some (.retAddr 5)] [] (s, δ) none q := by
  unfold dm_272_r5 at h
  refine ds_aload_n (k := 0) (p := 1) (by decide +kernel) rfl rfl ?_
  refine ds_aload_n_a (k := 2) (p := 2) (by decide +kernel) rfl rfl ?_
  obtain ⟨z3, h⟩ := fx_gd h
  obtain ⟨q1, w2, h⟩ := fx_bd h
  refine ds_callV (idx := 397) (mj := 271) (ci := 11) (na := 1) (mx := 2) (p := 5) (args := [.ref x0, .retAddr 5]) (rest := []) (al2 := [some (.ref x0), some (.retAddr 5)]) (S2 := q1) (by decide +kernel) rfl (by decide +kernel) (Or.inl ⟨_, rfl, Or.inl z3⟩) rfl rfl rfl rfl rfl rfl (by omega) (fun d' hd' => de_271_r5 hz (by omega) w2) rfl ?_
  refine ds_aload_n_a (k := 2) (p := 6) (by decide +kernel) rfl rfl ?_
  refine ds_aload_n (k := 0) (p := 7) (by decide +kernel) rfl rfl ?_
  obtain ⟨z4, h⟩ := fx_gd h
  obtain ⟨v5, w6, h⟩ := fx_bd h
  refine ds_gfr (idx := 15) (ci := 11) (j := 0) (p := 10) (by decide +kernel) rfl (by decide +kernel) z4 w6 ?_
  refine ds_iload_n (k := 1) (p := 11) (by decide +kernel) rfl rfl ?_
  refine ds_aload_n (k := 0) (p := 12) (by decide +kernel) rfl rfl ?_
  refine ds_gfi (idx := 22) (ci := 11) (j := 1) (p := 15) (by decide +kernel) rfl (by decide +kernel) z4 ?_
  obtain ⟨q7, w8, h⟩ := fx_bd h
  refine ds_callV (idx := 399) (mj := 281) (ci := 12) (na := 3) (mx := 4) (p := 18) (args := [.retAddr 5, .ref v5, .int (Int32.ofInt x1), .int (Int32.ofInt (q1.2.I x0 1))]) (rest := []) (al2 := [some (.retAddr 5), some (.ref v5), some (.int (Int32.ofInt x1)), some (.int (Int32.ofInt (q1.2.I x0 1)))]) (S2 := q7) (by decide +kernel) rfl (by decide +kernel) (Or.inr ⟨_, rfl, dz_o5 hz⟩) rfl rfl rfl rfl rfl rfl (by omega) (fun d' hd' => de_281_r5 hz (by omega) w8) rfl ?_
  have h := Option.some.inj h
  subst h
  exact ds_ret (by decide +kernel) rt_272
/-! java/lang/AbstractStringBuilder.append(Ljava/lang/String;)Ljava/lang/AbstractStringBuilder; d r5 -/
theorem mx_266 : iv_mx 266 = 3 := by decide +kernel
def dm_266_r5 (x0 : Nat) (s : gx_S) (δ : dS) : Option (Nat × DS) :=
  (dm_278_r5 s δ).bind fun q1 =>
  if dO q1.2.2 x0 11 then (
  (dm_268 x0 ((q1.2.2.I x0 3) + q1.1) q1.2.1 q1.2.2).bind fun q4 =>
  if dO q4.2 x0 11 then (
  (dm_272_r5 x0 (q4.2.I x0 3) q4.1 q4.2).bind fun q7 =>
  if dO q7.2 x0 11 then (
  (some (q7.2.w x0 3 ((q7.2.I x0 3) + q1.1))).bind fun t10 =>
  some (x0, q7.1, t10)) else none) else none) else none
theorem de_266_r5 {z : iv_Z} {L : Nat} {xs : Nat → Int32} (hz : dZ z L xs) {d : Nat} (hd : 3 ≤ d) {x0 : Nat} {s : gx_S} {δ : dS} {q : Nat × DS} (h : dm_266_r5 x0 s δ = some q) : dE z 266 d 0 [some (.ref x0), some (.retAddr 5), none] [] (s, δ) (some (.ref q.1)) q.2 := by
  unfold dm_266_r5 at h
  refine ds_aload_n_a (k := 1) (p := 1) (by decide +kernel) rfl rfl ?_
  refine ds_ifnonnull_a (off := 8) (t := 9) (by decide +kernel) (dz_is5 hz) (by decide +kernel) ?_
  refine ds_aload_n_a (k := 1) (p := 10) (by decide +kernel) rfl rfl ?_
  obtain ⟨q1, w2, h⟩ := fx_bd h
  refine ds_callV (idx := 32) (mj := 278) (ci := 12) (na := 0) (mx := 1) (p := 13) (args := [.retAddr 5]) (rest := []) (al2 := [some (.retAddr 5)]) (S2 := q1.2) (by decide +kernel) rfl (by decide +kernel) (Or.inr ⟨_, rfl, dz_o5 hz⟩) rfl rfl rfl rfl rfl rfl (by omega) (fun d' hd' => de_278_r5 hz (by omega) w2) rfl ?_
  refine ds_istore_n (k := 2) (p := 14) (M := 3) (al' := [some (.ref x0), some (.retAddr 5), some (.int (Int32.ofInt q1.1))]) (by decide +kernel) rfl mx_266 rfl rfl ?_
  refine ds_aload_n (k := 0) (p := 15) (by decide +kernel) rfl rfl ?_
  refine ds_aload_n (k := 0) (p := 16) (by decide +kernel) rfl rfl ?_
  obtain ⟨z3, h⟩ := fx_gd h
  refine ds_gfi (idx := 79) (ci := 11) (j := 3) (p := 19) (by decide +kernel) rfl (by decide +kernel) z3 ?_
  refine ds_iload_n (k := 2) (p := 20) (by decide +kernel) rfl rfl ?_
  refine ds_iadd (p := 21) (c := Int32.ofInt ((q1.2.2.I x0 3) + q1.1)) (by decide +kernel) rfl (ga_add rfl rfl) ?_
  obtain ⟨q4, w5, h⟩ := fx_bd h
  refine ds_callV (idx := 100) (mj := 268) (ci := 11) (na := 1) (mx := 3) (p := 24) (args := [.ref x0, .int (Int32.ofInt ((q1.2.2.I x0 3) + q1.1))]) (rest := []) (al2 := [some (.ref x0), some (.int (Int32.ofInt ((q1.2.2.I x0 3) + q1.1))), none]) (S2 := q4) (by decide +kernel) rfl (by decide +kernel) (Or.inl ⟨_, rfl, Or.inl z3⟩) rfl rfl rfl rfl rfl rfl (by omega) (fun d' hd' => de_268 hz (by omega) w5) rfl ?_
  refine ds_aload_n (k := 0) (p := 25) (by decide +kernel) rfl rfl ?_
  refine ds_aload_n (k := 0) (p := 26) (by decide +kernel) rfl rfl ?_
  obtain ⟨z6, h⟩ := fx_gd h
  refine ds_gfi (idx := 79) (ci := 11) (j := 3) (p := 29) (by decide +kernel) rfl (by decide +kernel) z6 ?_
  refine ds_aload_n_a (k := 1) (p := 30) (by decide +kernel) rfl rfl ?_
  obtain ⟨q7, w8, h⟩ := fx_bd h
  refine ds_callV (idx := 208) (mj := 272) (ci := 11) (na := 2) (mx := 3) (p := 33) (args := [.ref x0, .int (Int32.ofInt (q4.2.I x0 3)), .retAddr 5]) (rest := []) (al2 := [some (.ref x0), some (.int (Int32.ofInt (q4.2.I x0 3))), some (.retAddr 5)]) (S2 := q7) (by decide +kernel) rfl (by decide +kernel) (Or.inl ⟨_, rfl, Or.inl z6⟩) rfl rfl rfl rfl rfl rfl (by omega) (fun d' hd' => de_272_r5 hz (by omega) w8) rfl ?_
  refine ds_aload_n (k := 0) (p := 34) (by decide +kernel) rfl rfl ?_
  refine ds_dup (p := 35) (by decide +kernel) rfl rfl ?_
  obtain ⟨z9, h⟩ := fx_gd h
  refine ds_gfi (idx := 79) (ci := 11) (j := 3) (p := 38) (by decide +kernel) rfl (by decide +kernel) z9 ?_
  refine ds_iload_n (k := 2) (p := 39) (by decide +kernel) rfl rfl ?_
  refine ds_iadd (p := 40) (c := Int32.ofInt ((q7.2.I x0 3) + q1.1)) (by decide +kernel) rfl (ga_add rfl rfl) ?_
  obtain ⟨t10, w11, h⟩ := fx_bd h
  refine ds_pfi (idx := 79) (ci := 11) (j := 3) (p := 43) (by decide +kernel) rfl (by decide +kernel) (by decide +kernel) z9 (fx_oki _ (by decide +kernel)) ?_
  rw [Option.some.inj w11]
  refine ds_aload_n (k := 0) (p := 44) (by decide +kernel) rfl rfl ?_
  have h := Option.some.inj h
  subst h
  exact ds_aret (by decide +kernel) (by decide +kernel)
/-! java/lang/StringBuilder.append(Ljava/lang/String;)Ljava/lang/StringBuilder; d r5 -/
theorem mx_260 : iv_mx 260 = 2 := by decide +kernel
def dm_260_r5 (x0 : Nat) (s : gx_S) (δ : dS) : Option (Nat × DS) :=
  if dO δ x0 11 then (
  (dm_266_r5 x0 s δ).bind fun q1 =>
  some (x0, q1.2.1, q1.2.2)) else none
theorem de_260_r5 {z : iv_Z} {L : Nat} {xs : Nat → Int32} (hz : dZ z L xs) {d : Nat} (hd : 4 ≤ d) {x0 : Nat} {s : gx_S} {δ : dS} {q : Nat × DS} (h : dm_260_r5 x0 s δ = some q) : dE z 260 d 0 [some (.ref x0), some (.retAddr 5)] [] (s, δ) (some (.ref q.1)) q.2 := by
  unfold dm_260_r5 at h
  refine ds_aload_n (k := 0) (p := 1) (by decide +kernel) rfl rfl ?_
  refine ds_aload_n_a (k := 1) (p := 2) (by decide +kernel) rfl rfl ?_
  obtain ⟨z3, h⟩ := fx_gd h
  obtain ⟨q1, w2, h⟩ := fx_bd h
  refine ds_callP (idx := 29) (mj := 266) (ci := 11) (na := 1) (mx := 3) (p := 5) (args := [.ref x0, .retAddr 5]) (rest := []) (al2 := [some (.ref x0), some (.retAddr 5), none]) (S2 := q1.2) (by decide +kernel) rfl (by decide +kernel) (Or.inl ⟨_, rfl, Or.inl z3⟩) rfl rfl rfl rfl rfl rfl (by omega) (fun d' hd' => de_266_r5 hz (by omega) w2) rfl ?_
  refine ds_pop (p := 6) (by decide +kernel) rfl rfl ?_
  refine ds_aload_n (k := 0) (p := 7) (by decide +kernel) rfl rfl ?_
  have h := Option.some.inj h
  subst h
  exact ds_aret (by decide +kernel) (by decide +kernel)
/-! java/lang/String.coder()B r3 -/
def dm_282_r3 (s : gx_S) (δ : dS) : Option (Int × DS) :=
  some (0, s, δ)
theorem de_282_r3 {z : iv_Z} {L : Nat} {xs : Nat → Int32} (hz : dZ z L xs) {d : Nat} (hd : 0 ≤ d) {s : gx_S} {δ : dS} {q : Int × DS} (h : dm_282_r3 s δ = some q) : dE z 282 d 0 [some (.retAddr 3)] [] (s, δ) (some (.int (Int32.ofInt q.1))) q.2 := by
  unfold dm_282_r3 at h
  refine ds_gets0 (idx := 38) (p := 3) (by decide +kernel) rfl (by decide +kernel) ?_
  refine ds_if_eq_f (off := 10) (t := 13) (p := 6) (by decide +kernel) (by decide +kernel) rfl (fun q => absurd ((gc_eq (x := 1) (y := 0) rfl rfl (by decide) (by decide)).mp q) (by decide)) ?_
  refine ds_aload_n_a (k := 0) (p := 7) (by decide +kernel) rfl rfl ?_
  refine ds_gfa (idx := 15) (p := 10) (by decide +kernel) rfl (dzf_282_15_3 hz) ?_
  refine ds_goto (off := 4) (p := 14) (by decide +kernel) (by decide +kernel) ?_
  have h := Option.some.inj h
  subst h
  exact ds_iret (by decide +kernel) rt_282 (by decide +kernel)
/-! java/lang/String.length()I r3 -/
def dm_278_r3 (s : gx_S) (δ : dS) : Option (Int × DS) :=
  (dm_282_r3 s δ).bind fun q1 =>
  some ((Int32.ofInt 1 >>> (Int32.ofInt q1.1 &&& 31)).toInt, q1.2.1, q1.2.2)
theorem de_278_r3 {z : iv_Z} {L : Nat} {xs : Nat → Int32} (hz : dZ z L xs) {d : Nat} (hd : 1 ≤ d) {s : gx_S} {δ : dS} {q : Int × DS} (h : dm_278_r3 s δ = some q) : dE z 278 d 0 [some (.retAddr 3)] [] (s, δ) (some (.int (Int32.ofInt q.1))) q.2 := by
  unfold dm_278_r3 at h
  refine ds_aload_n_a (k := 0) (p := 1) (by decide +kernel) rfl rfl ?_
  refine ds_gfa (idx := 9) (p := 4) (by decide +kernel) rfl (dzf_278_9_3 hz) ?_
  refine ds_alen_a (m := 1) (p := 5) (by decide +kernel) rfl (dz_a4 hz) rfl ?_
  refine ds_aload_n_a (k := 0) (p := 6) (by decide +kernel) rfl rfl ?_
  obtain ⟨q1, w2, h⟩ := fx_bd h
  refine ds_callV (idx := 335) (mj := 282) (ci := 12) (na := 0) (mx := 1) (p := 9) (args := [.retAddr 3]) (rest := [.int (Int32.ofInt 1)]) (al2 := [some (.retAddr 3)]) (S2 := q1.2) (by decide +kernel) rfl (by decide +kernel) (Or.inr ⟨_, rfl, dz_o3 hz⟩) rfl rfl rfl rfl rfl rfl (by omega) (fun d' hd' => de_282_r3 hz (by omega) w2) rfl ?_
  refine ds_ishr (p := 10) (c := Int32.ofInt (Int32.ofInt 1 >>> (Int32.ofInt q1.1 &&& 31)).toInt) (by decide +kernel) rfl (Int32.ofInt_toInt _).symm ?_
  have h := Option.some.inj h
  subst h
  exact ds_iret (by decide +kernel) rt_278 rfl
/-! java/lang/AbstractStringBuilder.inflateIfNeededFor(Ljava/lang/String;)V d r3 -/
def dm_271_r3 (x0 : Nat) (s : gx_S) (δ : dS) : Option (DS) :=
  if dO δ x0 11 then (
  (dm_282_r3 s δ).bind fun q2 =>
  if (-2147483648 ≤ (δ.I x0 1) ∧ (δ.I x0 1) ≤ 2147483647) then (
  if (-2147483648 ≤ q2.1 ∧ q2.1 ≤ 2147483647) then (
  if (δ.I x0 1) = q2.1 then (
    some (q2.2.1, q2.2.2)) else (
    none)) else none) else none) else none
theorem de_271_r3 {z : iv_Z} {L : Nat} {xs : Nat → Int32} (hz : dZ z L xs) {d : Nat} (hd : 1 ≤ d) {x0 : Nat} {s : gx_S} {δ : dS} {q : DS} (h : dm_271_r3 x0 s δ = some q) : dE z 271 d 0 [some (.ref x0), some (.retAddr 3)] [] (s, δ) none q := by
  unfold dm_271_r3 at h
  refine ds_gets0 (idx := 18) (p := 3) (by decide +kernel) rfl (by decide +kernel) ?_
  refine ds_if_eq_f (off := 18) (t := 21) (p := 6) (by decide +kernel) (by decide +kernel) rfl (fun q => absurd ((gc_eq (x := 1) (y := 0) rfl rfl (by decide) (by decide)).mp q) (by decide)) ?_
  refine ds_aload_n (k := 0) (p := 7) (by decide +kernel) rfl rfl ?_
  obtain ⟨z1, h⟩ := fx_gd h
  refine ds_gfi (idx := 22) (ci := 11) (j := 1) (p := 10) (by decide +kernel) rfl (by decide +kernel) z1 ?_
  refine ds_aload_n_a (k := 1) (p := 11) (by decide +kernel) rfl rfl ?_
  obtain ⟨q2, w3, h⟩ := fx_bd h
  refine ds_callV (idx := 40) (mj := 282) (ci := 12) (na := 0) (mx := 1) (p := 14) (args := [.retAddr 3]) (rest := [.int (Int32.ofInt (δ.I x0 1))]) (al2 := [some (.retAddr 3)]) (S2 := q2.2) (by decide +kernel) rfl (by decide +kernel) (Or.inr ⟨_, rfl, dz_o3 hz⟩) rfl rfl rfl rfl rfl rfl (by omega) (fun d' hd' => de_282_r3 hz (by omega) w3) rfl ?_
  obtain ⟨z4, h⟩ := fx_gd h
  obtain ⟨z5, h⟩ := fx_gd h
  by_cases c6 : (δ.I x0 1) = q2.1
  · rw [if_pos c6] at h
    refine ds_icmp_eq_t (off := 7) (t := 21) (by decide +kernel) (by decide +kernel) ((gc_eq rfl rfl z4 z5).mpr c6) ?_
    have h := Option.some.inj h
    subst h
    exact ds_ret (by decide +kernel) rt_271
  · rw [if_neg c6] at h
    refine ds_icmp_eq_f (off := 7) (t := 21) (p := 17) (by decide +kernel) (by decide +kernel) rfl (fun q => c6 ((gc_eq rfl rfl z4 z5).mp q)) ?_
    exact fx_no h
/-! java/lang/String.getBytes([BIB)V r3 d -/
def dm_281_r3 (x1 : Nat) (x2 : Int) (x3 : Int) (s : gx_S) (δ : dS) : Option (DS) :=
  (dm_282_r3 s δ).bind fun q1 =>
  if (-2147483648 ≤ q1.1 ∧ q1.1 ≤ 2147483647) then (
  if (-2147483648 ≤ x3 ∧ x3 ≤ 2147483647) then (
  if ¬ q1.1 = x3 then (
    none) else (
    if dA q1.2.2 3 x1 then (
    if 0 ≤ (0 : Int) ∧ 0 ≤ (Int32.ofInt x2 <<< (Int32.ofInt x3 &&& 31)).toInt ∧ 0 ≤ (1 : Int) ∧ (0 : Int) + (1 : Int) ≤ (1 : Int) ∧ (Int32.ofInt x2 <<< (Int32.ofInt x3 &&& 31)).toInt + (1 : Int) ≤ ((q1.2.2.sh x1).2 : Int) then (
    (some (q1.2.2.cz dz_4 ((0 : Int).toNat) x1 (((Int32.ofInt x2 <<< (Int32.ofInt x3 &&& 31)).toInt).toNat) ((1 : Int).toNat))).bind fun t8 =>
    some (q1.2.1, t8)) else none) else none)) else none) else none
theorem de_281_r3 {z : iv_Z} {L : Nat} {xs : Nat → Int32} (hz : dZ z L xs) {d : Nat} (hd : 1 ≤ d) {x1 : Nat} {x2 : Int} {x3 : Int} {s : gx_S} {δ : dS} {q : DS} (h : dm_281_r3 x1 x2 x3 s δ = some q) : dE z 281 d 0 [some (.retAddr 3), some (.ref x1), some (.int (Int32.ofInt x2)), some (.int (Int32.ofInt x3))] [] (s, δ) none q := by
  unfold dm_281_r3 at h
  refine ds_aload_n_a (k := 0) (p := 1) (by decide +kernel) rfl rfl ?_
  obtain ⟨q1, w2, h⟩ := fx_bd h
  refine ds_callV (idx := 335) (mj := 282) (ci := 12) (na := 0) (mx := 1) (p := 4) (args := [.retAddr 3]) (rest := []) (al2 := [some (.retAddr 3)]) (S2 := q1.2) (by decide +kernel) rfl (by decide +kernel) (Or.inr ⟨_, rfl, dz_o3 hz⟩) rfl rfl rfl rfl rfl rfl (by omega) (fun d' hd' => de_282_r3 hz (by omega) w2) rfl ?_
  refine ds_iload_n (k := 3) (p := 5) (by decide +kernel) rfl rfl ?_
  obtain ⟨z3, h⟩ := fx_gd h
  obtain ⟨z4, h⟩ := fx_gd h
  by_cases c5 : ¬ q1.1 = x3
  · rw [if_pos c5] at h
    refine ds_icmp_ne_t (off := 23) (t := 28) (by decide +kernel) (by decide +kernel) ((gc_ne rfl rfl z3 z4).mpr c5) ?_
    exact fx_no h
  · rw [if_neg c5] at h
    refine ds_icmp_ne_f (off := 23) (t := 28) (p := 8) (by decide +kernel) (by decide +kernel) rfl (fun q => c5 ((gc_ne rfl rfl z3 z4).mp q)) ?_
    refine ds_aload_n_a (k := 0) (p := 9) (by decide +kernel) rfl rfl ?_
    refine ds_gfa (idx := 9) (p := 12) (by decide +kernel) rfl (dzf_281_9_3 hz) ?_
    refine ds_iconst (n := 0) (p := 13) (by decide +kernel) rfl rfl ?_
    refine ds_aload_n (k := 1) (p := 14) (by decide +kernel) rfl rfl ?_
    refine ds_iload_n (k := 2) (p := 15) (by decide +kernel) rfl rfl ?_
    refine ds_iload_n (k := 3) (p := 16) (by decide +kernel) rfl rfl ?_
    refine ds_ishl (p := 17) (c := Int32.ofInt (Int32.ofInt x2 <<< (Int32.ofInt x3 &&& 31)).toInt) (by decide +kernel) rfl (Int32.ofInt_toInt _).symm ?_
    refine ds_aload_n_a (k := 0) (p := 18) (by decide +kernel) rfl rfl ?_
    refine ds_gfa (idx := 9) (p := 21) (by decide +kernel) rfl (dzf_281_9_3 hz) ?_
    refine ds_alen_a (m := 1) (p := 22) (by decide +kernel) rfl (dz_a4 hz) rfl ?_
    obtain ⟨z6, h⟩ := fx_gd h
    obtain ⟨z7, h⟩ := fx_gd h
    obtain ⟨t8, w9, h⟩ := fx_bd h
    refine ds_cpya (idx := 212) (p := 25) (by decide +kernel) rfl (by decide +kernel) rfl (dz_a4 hz) (dz_n4 hz) z6 z7 ?_
    rw [Option.some.inj w9]
    refine ds_goto (off := 18) (p := 43) (by decide +kernel) (by decide +kernel) ?_
    have h := Option.some.inj h
    subst h
    exact ds_ret (by decide +kernel) rt_281
/-! java/lang/AbstractStringBuilder.putStringAt(ILjava/lang/String;)V d r3 -/
def dm_272_r3 (x0 : Nat) (x1 : Int) (s : gx_S) (δ : dS) : Option (DS) :=
  if dO δ x0 11 then (
  (dm_271_r3 x0 s δ).bind fun q1 =>
  if dO q1.2 x0 11 then (
  (q1.2.P x0 0).bind fun v5 =>
  (dm_281_r3 v5 x1 (q1.2.I x0 1) q1.1 q1.2).bind fun q7 =>
  some (q7.1, q7.2)) else none) else none
theorem de_272_r3 {z : iv_Z} {L : Nat} {xs : Nat → Int32} (hz : dZ z L xs) {d : Nat} (hd : 2 ≤ d) {x0 : Nat} {x1 : Int} {s : gx_S} {δ : dS} {q : DS} (h : dm_272_r3 x0 x1 s δ = some q) : dE z 272 d 0 [some (.ref x0), some (.int (Int32.ofInt x1)), some (.retAddr 3)] [] (s, δ) none q := by
  unfold dm_272_r3 at h
  refine ds_aload_n (k := 0) (p := 1) (by decide +kernel) rfl rfl ?_
  refine ds_aload_n_a (k := 2) (p := 2) (by decide +kernel) rfl rfl ?_
  obtain ⟨z3, h⟩ := fx_gd h
  obtain ⟨q1, w2, h⟩ := fx_bd h
  refine ds_callV (idx := 397) (mj := 271) (ci := 11) (na := 1) (mx := 2) (p := 5) (args := [.ref x0, .retAddr 3]) (rest := []) (al2 := [some (.ref x0), some (.retAddr 3)]) (S2 := q1) (by decide +kernel) rfl (by decide +kernel) (Or.inl ⟨_, rfl, Or.inl z3⟩) rfl rfl rfl rfl rfl rfl (by omega) (fun d' hd' => de_271_r3 hz (by omega) w2) rfl ?_
  refine ds_aload_n_a (k := 2) (p := 6) (by decide +kernel) rfl rfl ?_
  refine ds_aload_n (k := 0) (p := 7) (by decide +kernel) rfl rfl ?_
  obtain ⟨z4, h⟩ := fx_gd h
  obtain ⟨v5, w6, h⟩ := fx_bd h
  refine ds_gfr (idx := 15) (ci := 11) (j := 0) (p := 10) (by decide +kernel) rfl (by decide +kernel) z4 w6 ?_
  refine ds_iload_n (k := 1) (p := 11) (by decide +kernel) rfl rfl ?_
  refine ds_aload_n (k := 0) (p := 12) (by decide +kernel) rfl rfl ?_
  refine ds_gfi (idx := 22) (ci := 11) (j := 1) (p := 15) (by decide +kernel) rfl (by decide +kernel) z4 ?_
  obtain ⟨q7, w8, h⟩ := fx_bd h
  refine ds_callV (idx := 399) (mj := 281) (ci := 12) (na := 3) (mx := 4) (p := 18) (args := [.retAddr 3, .ref v5, .int (Int32.ofInt x1), .int (Int32.ofInt (q1.2.I x0 1))]) (rest := []) (al2 := [some (.retAddr 3), some (.ref v5), some (.int (Int32.ofInt x1)), some (.int (Int32.ofInt (q1.2.I x0 1)))]) (S2 := q7) (by decide +kernel) rfl (by decide +kernel) (Or.inr ⟨_, rfl, dz_o3 hz⟩) rfl rfl rfl rfl rfl rfl (by omega) (fun d' hd' => de_281_r3 hz (by omega) w8) rfl ?_
  have h := Option.some.inj h
  subst h
  exact ds_ret (by decide +kernel) rt_272
/-! java/lang/AbstractStringBuilder.append(Ljava/lang/String;)Ljava/lang/AbstractStringBuilder; d r3 -/
def dm_266_r3 (x0 : Nat) (s : gx_S) (δ : dS) : Option (Nat × DS) :=
  (dm_278_r3 s δ).bind fun q1 =>
  if dO q1.2.2 x0 11 then (
  (dm_268 x0 ((q1.2.2.I x0 3) + q1.1) q1.2.1 q1.2.2).bind fun q4 =>
  if dO q4.2 x0 11 then (
  (dm_272_r3 x0 (q4.2.I x0 3) q4.1 q4.2).bind fun q7 =>
  if dO q7.2 x0 11 then (
  (some (q7.2.w x0 3 ((q7.2.I x0 3) + q1.1))).bind fun t10 =>
  some (x0, q7.1, t10)) else none) else none) else none
theorem de_266_r3 {z : iv_Z} {L : Nat} {xs : Nat → Int32} (hz : dZ z L xs) {d : Nat} (hd : 3 ≤ d) {x0 : Nat} {s : gx_S} {δ : dS} {q : Nat × DS} (h : dm_266_r3 x0 s δ = some q) : dE z 266 d 0 [some (.ref x0), some (.retAddr 3), none] [] (s, δ) (some (.ref q.1)) q.2 := by
  unfold dm_266_r3 at h
  refine ds_aload_n_a (k := 1) (p := 1) (by decide +kernel) rfl rfl ?_
  refine ds_ifnonnull_a (off := 8) (t := 9) (by decide +kernel) (dz_is3 hz) (by decide +kernel) ?_
  refine ds_aload_n_a (k := 1) (p := 10) (by decide +kernel) rfl rfl ?_
  obtain ⟨q1, w2, h⟩ := fx_bd h
  refine ds_callV (idx := 32) (mj := 278) (ci := 12) (na := 0) (mx := 1) (p := 13) (args := [.retAddr 3]) (rest := []) (al2 := [some (.retAddr 3)]) (S2 := q1.2) (by decide +kernel) rfl (by decide +kernel) (Or.inr ⟨_, rfl, dz_o3 hz⟩) rfl rfl rfl rfl rfl rfl (by omega) (fun d' hd' => de_278_r3 hz (by omega) w2) rfl ?_
  refine ds_istore_n (k := 2) (p := 14) (M := 3) (al' := [some (.ref x0), some (.retAddr 3), some (.int (Int32.ofInt q1.1))]) (by decide +kernel) rfl mx_266 rfl rfl ?_
  refine ds_aload_n (k := 0) (p := 15) (by decide +kernel) rfl rfl ?_
  refine ds_aload_n (k := 0) (p := 16) (by decide +kernel) rfl rfl ?_
  obtain ⟨z3, h⟩ := fx_gd h
  refine ds_gfi (idx := 79) (ci := 11) (j := 3) (p := 19) (by decide +kernel) rfl (by decide +kernel) z3 ?_
  refine ds_iload_n (k := 2) (p := 20) (by decide +kernel) rfl rfl ?_
  refine ds_iadd (p := 21) (c := Int32.ofInt ((q1.2.2.I x0 3) + q1.1)) (by decide +kernel) rfl (ga_add rfl rfl) ?_
  obtain ⟨q4, w5, h⟩ := fx_bd h
  refine ds_callV (idx := 100) (mj := 268) (ci := 11) (na := 1) (mx := 3) (p := 24) (args := [.ref x0, .int (Int32.ofInt ((q1.2.2.I x0 3) + q1.1))]) (rest := []) (al2 := [some (.ref x0), some (.int (Int32.ofInt ((q1.2.2.I x0 3) + q1.1))), none]) (S2 := q4) (by decide +kernel) rfl (by decide +kernel) (Or.inl ⟨_, rfl, Or.inl z3⟩) rfl rfl rfl rfl rfl rfl (by omega) (fun d' hd' => de_268 hz (by omega) w5) rfl ?_
  refine ds_aload_n (k := 0) (p := 25) (by decide +kernel) rfl rfl ?_
  refine ds_aload_n (k := 0) (p := 26) (by decide +kernel) rfl rfl ?_
  obtain ⟨z6, h⟩ := fx_gd h
  refine ds_gfi (idx := 79) (ci := 11) (j := 3) (p := 29) (by decide +kernel) rfl (by decide +kernel) z6 ?_
  refine ds_aload_n_a (k := 1) (p := 30) (by decide +kernel) rfl rfl ?_
  obtain ⟨q7, w8, h⟩ := fx_bd h
  refine ds_callV (idx := 208) (mj := 272) (ci := 11) (na := 2) (mx := 3) (p := 33) (args := [.ref x0, .int (Int32.ofInt (q4.2.I x0 3)), .retAddr 3]) (rest := []) (al2 := [some (.ref x0), some (.int (Int32.ofInt (q4.2.I x0 3))), some (.retAddr 3)]) (S2 := q7) (by decide +kernel) rfl (by decide +kernel) (Or.inl ⟨_, rfl, Or.inl z6⟩) rfl rfl rfl rfl rfl rfl (by omega) (fun d' hd' => de_272_r3 hz (by omega) w8) rfl ?_
  refine ds_aload_n (k := 0) (p := 34) (by decide +kernel) rfl rfl ?_
  refine ds_dup (p := 35) (by decide +kernel) rfl rfl ?_
  obtain ⟨z9, h⟩ := fx_gd h
  refine ds_gfi (idx := 79) (ci := 11) (j := 3) (p := 38) (by decide +kernel) rfl (by decide +kernel) z9 ?_
  refine ds_iload_n (k := 2) (p := 39) (by decide +kernel) rfl rfl ?_
  refine ds_iadd (p := 40) (c := Int32.ofInt ((q7.2.I x0 3) + q1.1)) (by decide +kernel) rfl (ga_add rfl rfl) ?_
  obtain ⟨t10, w11, h⟩ := fx_bd h
  refine ds_pfi (idx := 79) (ci := 11) (j := 3) (p := 43) (by decide +kernel) rfl (by decide +kernel) (by decide +kernel) z9 (fx_oki _ (by decide +kernel)) ?_
  rw [Option.some.inj w11]
  refine ds_aload_n (k := 0) (p := 44) (by decide +kernel) rfl rfl ?_
  have h := Option.some.inj h
  subst h
  exact ds_aret (by decide +kernel) (by decide +kernel)
/-! java/lang/StringBuilder.append(Ljava/lang/String;)Ljava/lang/StringBuilder; d r3 -/
def dm_260_r3 (x0 : Nat) (s : gx_S) (δ : dS) : Option (Nat × DS) :=
  if dO δ x0 11 then (
  (dm_266_r3 x0 s δ).bind fun q1 =>
  some (x0, q1.2.1, q1.2.2)) else none
theorem de_260_r3 {z : iv_Z} {L : Nat} {xs : Nat → Int32} (hz : dZ z L xs) {d : Nat} (hd : 4 ≤ d) {x0 : Nat} {s : gx_S} {δ : dS} {q : Nat × DS} (h : dm_260_r3 x0 s δ = some q) : dE z 260 d 0 [some (.ref x0), some (.retAddr 3)] [] (s, δ) (some (.ref q.1)) q.2 := by
  unfold dm_260_r3 at h
  refine ds_aload_n (k := 0) (p := 1) (by decide +kernel) rfl rfl ?_
  refine ds_aload_n_a (k := 1) (p := 2) (by decide +kernel) rfl rfl ?_
  obtain ⟨z3, h⟩ := fx_gd h
  obtain ⟨q1, w2, h⟩ := fx_bd h
  refine ds_callP (idx := 29) (mj := 266) (ci := 11) (na := 1) (mx := 3) (p := 5) (args := [.ref x0, .retAddr 3]) (rest := []) (al2 := [some (.ref x0), some (.retAddr 3), none]) (S2 := q1.2) (by decide +kernel) rfl (by decide +kernel) (Or.inl ⟨_, rfl, Or.inl z3⟩) rfl rfl rfl rfl rfl rfl (by omega) (fun d' hd' => de_266_r3 hz (by omega) w2) rfl ?_
  refine ds_pop (p := 6) (by decide +kernel) rfl rfl ?_
  refine ds_aload_n (k := 0) (p := 7) (by decide +kernel) rfl rfl ?_
  have h := Option.some.inj h
  subst h
  exact ds_aret (by decide +kernel) (by decide +kernel)
/-! ZoneSharesLaw.counts(LZoneShares;LZoneSharesLaw$Map;[III)Z c d s -/
theorem mx_241 : iv_mx 241 = 9 := by decide +kernel
theorem rt_241 : iv_rt 241 = some .boolean := by decide +kernel
def dm_241_173 (L : Nat) (xs : Nat → Int32) (k_15 : Nat → Int → Int → Nat → Int → Int → gx_S → dS → Option (Int × DS)) (x1 : Nat) (x3 : Int) (x4 : Int) (x5 : Nat) (x6 : Int) (x7 : Int) (s : gx_S) (δ : dS) : Option (Int × DS) :=
  k_15 x1 x3 x4 x5 x6 (x7 + 1) s δ
theorem de_241_173 {z : iv_Z} {L : Nat} {xs : Nat → Int32} (hz : dZ z L xs) {d : Nat} (hd : 6 ≤ d) {k_15 : Nat → Int → Int → Nat → Int → Int → gx_S → dS → Option (Int × DS)} (hk_15 : ∀ (x1 : Nat) (x3 : Int) (x4 : Int) (x5 : Nat) (x6 : Int) (x7 : Int) (o8 : Option Value) (s : gx_S) (δ : dS) (q : Int × DS), k_15 x1 x3 x4 x5 x6 x7 s δ = some q → dE z 241 d 15 [some (.ref 0), some (.ref x1), some (.retAddr 0), some (.int (Int32.ofInt x3)), some (.int (Int32.ofInt x4)), some (.ref x5), some (.int (Int32.ofInt x6)), some (.int (Int32.ofInt x7)), o8] [] (s, δ) (some (.int (Int32.ofInt q.1))) q.2) (x1 : Nat) (x3 : Int) (x4 : Int) (x5 : Nat) (x6 : Int) (x7 : Int) (o8 : Option Value) (s : gx_S) (δ : dS) (q : Int × DS) (h : dm_241_173 L xs k_15  x1 x3 x4 x5 x6 x7 s δ = some q) : dE z 241 d 173 [some (.ref 0), some (.ref x1), some (.retAddr 0), some (.int (Int32.ofInt x3)), some (.int (Int32.ofInt x4)), some (.ref x5), some (.int (Int32.ofInt x6)), some (.int (Int32.ofInt x7)), o8] [] (s, δ) (some (.int (Int32.ofInt q.1))) q.2 := by
  unfold dm_241_173 at h
  refine ds_iinc (k := 7) (n := 1) (p := 176) (M := 9) (y := Int32.ofInt (x7 + 1)) (al' := [some (.ref 0), some (.ref x1), some (.retAddr 0), some (.int (Int32.ofInt x3)), some (.int (Int32.ofInt x4)), some (.ref x5), some (.int (Int32.ofInt x6)), some (.int (Int32.ofInt (x7 + 1))), o8]) (by decide +kernel) rfl rfl mx_241 rfl rfl (ga_add rfl rfl) rfl ?_
  refine ds_goto (off := -161) (p := 15) (by decide +kernel) (by decide +kernel) ?_
  exact hk_15 _ _ _ _ _ _ _ _ _ _ h
def dm_241_151 (L : Nat) (xs : Nat → Int32) (k_15 : Nat → Int → Int → Nat → Int → Int → gx_S → dS → Option (Int × DS)) (x1 : Nat) (x3 : Int) (x4 : Int) (x5 : Nat) (x6 : Int) (x7 : Int) (s0 : Nat) (s1 : Int) (s : gx_S) (δ : dS) : Option (Int × DS) :=
  if dO δ s0 11 then (
  (dm_258 s0 s1 s δ).bind fun q1 =>
  if dO q1.2.2 q1.1 11 then (
  (dm_258 q1.1 61 q1.2.1 q1.2.2).bind fun q4 =>
  if dO q4.2.2 x1 10 then (
  (q4.2.2.P x1 7).bind fun v8 =>
  if dA q4.2.2 6 v8 then (
  if dI q4.2.2 v8 x4 then (
  (q4.2.2.P v8 ((x4).toNat)).bind fun v12 =>
  if dA q4.2.2 0 v12 then (
  if dI q4.2.2 v12 x7 then (
  if dO q4.2.2 q4.1 11 then (
  (dm_259 q4.1 (q4.2.2.I v12 ((x7).toNat)) q4.2.1 q4.2.2).bind fun q16 =>
  dm_241_173 L xs k_15 x1 x3 x4 x5 x6 x7 q16.2.1 q16.2.2) else none) else none) else none) else none) else none) else none) else none) else none
theorem de_241_151 {z : iv_Z} {L : Nat} {xs : Nat → Int32} (hz : dZ z L xs) {d : Nat} (hd : 6 ≤ d) {k_15 : Nat → Int → Int → Nat → Int → Int → gx_S → dS → Option (Int × DS)} (hk_15 : ∀ (x1 : Nat) (x3 : Int) (x4 : Int) (x5 : Nat) (x6 : Int) (x7 : Int) (o8 : Option Value) (s : gx_S) (δ : dS) (q : Int × DS), k_15 x1 x3 x4 x5 x6 x7 s δ = some q → dE z 241 d 15 [some (.ref 0), some (.ref x1), some (.retAddr 0), some (.int (Int32.ofInt x3)), some (.int (Int32.ofInt x4)), some (.ref x5), some (.int (Int32.ofInt x6)), some (.int (Int32.ofInt x7)), o8] [] (s, δ) (some (.int (Int32.ofInt q.1))) q.2) (x1 : Nat) (x3 : Int) (x4 : Int) (x5 : Nat) (x6 : Int) (x7 : Int) (s0 : Nat) (s1 : Int) (o8 : Option Value) (s : gx_S) (δ : dS) (q : Int × DS) (h : dm_241_151 L xs k_15  x1 x3 x4 x5 x6 x7 s0 s1 s δ = some q) : dE z 241 d 151 [some (.ref 0), some (.ref x1), some (.retAddr 0), some (.int (Int32.ofInt x3)), some (.int (Int32.ofInt x4)), some (.ref x5), some (.int (Int32.ofInt x6)), some (.int (Int32.ofInt x7)), o8] [.int (Int32.ofInt s1), .ref s0] (s, δ) (some (.int (Int32.ofInt q.1))) q.2 := by
  unfold dm_241_151 at h
  obtain ⟨z3, h⟩ := fx_gd h
  obtain ⟨q1, w2, h⟩ := fx_bd h
  refine ds_callV (idx := 31) (mj := 258) (ci := 11) (na := 1) (mx := 2) (p := 154) (args := [.ref s0, .int (Int32.ofInt s1)]) (rest := []) (al2 := [some (.ref s0), some (.int (Int32.ofInt s1))]) (S2 := q1.2) (by decide +kernel) rfl (by decide +kernel) (Or.inl ⟨_, rfl, Or.inl z3⟩) rfl rfl rfl rfl rfl rfl (by omega) (fun d' hd' => de_258 hz (by omega) w2) rfl ?_
  refine ds_bipush (n := 61) (p := 156) (by decide +kernel) rfl dkb_61 ?_
  obtain ⟨z6, h⟩ := fx_gd h
  obtain ⟨q4, w5, h⟩ := fx_bd h
  refine ds_callV (idx := 31) (mj := 258) (ci := 11) (na := 1) (mx := 2) (p := 159) (args := [.ref q1.1, .int (Int32.ofInt 61)]) (rest := []) (al2 := [some (.ref q1.1), some (.int (Int32.ofInt 61))]) (S2 := q4.2) (by decide +kernel) rfl (by decide +kernel) (Or.inl ⟨_, rfl, Or.inl z6⟩) rfl rfl rfl rfl rfl rfl (by omega) (fun d' hd' => de_258 hz (by omega) w5) rfl ?_
  refine ds_aload_n (k := 1) (p := 160) (by decide +kernel) rfl rfl ?_
  obtain ⟨z7, h⟩ := fx_gd h
  obtain ⟨v8, w9, h⟩ := fx_bd h
  refine ds_gfr (idx := 79) (ci := 10) (j := 7) (p := 163) (by decide +kernel) rfl (by decide +kernel) z7 w9 ?_
  refine ds_iload (k := 4) (p := 165) (by decide +kernel) rfl rfl ?_
  obtain ⟨z10, h⟩ := fx_gd h
  obtain ⟨z11, h⟩ := fx_gd h
  obtain ⟨v12, w13, h⟩ := fx_bd h
  refine ds_aaload (t := 6) (p := 166) (by decide +kernel) rfl (by decide +kernel) z10 z11 w13 ?_
  refine ds_iload (k := 7) (p := 168) (by decide +kernel) rfl rfl ?_
  obtain ⟨z14, h⟩ := fx_gd h
  obtain ⟨z15, h⟩ := fx_gd h
  refine ds_iaload (p := 169) (by decide +kernel) rfl z14 z15 ?_
  obtain ⟨z18, h⟩ := fx_gd h
  obtain ⟨q16, w17, h⟩ := fx_bd h
  refine ds_callV (idx := 90) (mj := 259) (ci := 11) (na := 1) (mx := 2) (p := 172) (args := [.ref q4.1, .int (Int32.ofInt (q4.2.2.I v12 ((x7).toNat)))]) (rest := []) (al2 := [some (.ref q4.1), some (.int (Int32.ofInt (q4.2.2.I v12 ((x7).toNat))))]) (S2 := q16.2) (by decide +kernel) rfl (by decide +kernel) (Or.inl ⟨_, rfl, Or.inl z18⟩) rfl rfl rfl rfl rfl rfl (by omega) (fun d' hd' => de_259 hz (by omega) w17) rfl ?_
  refine ds_pop (p := 173) (by decide +kernel) rfl rfl ?_
  exact de_241_173 hz hd hk_15 _ _ _ _ _ _ _ _ _ _ h
def dm_241_96 (L : Nat) (xs : Nat → Int32) (k_15 : Nat → Int → Int → Nat → Int → Int → gx_S → dS → Option (Int × DS)) (x1 : Nat) (x3 : Int) (x4 : Int) (x5 : Nat) (x6 : Int) (x7 : Int) (s0 : Nat) (s1 : Int) (s2 : Int) (s3 : Int) (s : gx_S) (δ : dS) : Option (Int × DS) :=
  if 0 ≤ s2 ∧ s2 ≤ 2147483647 ∧ 0 < s3 ∧ s3 ≤ 2147483647 then (
  if dA δ 0 s0 then (
  if dI δ s0 s1 then (
  (some (δ.w s0 ((s1).toNat) (s2 % s3))).bind fun t4 =>
  if dO t4 x1 10 then (
  (t4.P x1 7).bind fun v7 =>
  if dA t4 6 v7 then (
  if dI t4 v7 x4 then (
  (t4.P v7 ((x4).toNat)).bind fun v11 =>
  if dA t4 0 v11 then (
  if dI t4 v11 x7 then (
  if dO t4 x5 11 then (
  (dm_261 x5 s t4).bind fun q15 =>
  if (-2147483648 ≤ q15.1 ∧ q15.1 ≤ 2147483647) then (
  if q15.1 ≤ 0 then (
    if dO q15.2.2 x5 11 then (
    (dm_260_r5 x5 q15.2.1 q15.2.2).bind fun q20 =>
    if (-2147483648 ≤ x7 ∧ x7 ≤ 2147483647) then (
    if ¬ x7 = 8 then (
      dm_241_151 L xs k_15 x1 x3 x4 x5 (x6 + (t4.I v11 ((x7).toNat))) x7 q20.1 ((((Int32.ofInt (97 + x7)).toUInt32 % 65536).toInt32).toInt) q20.2.1 q20.2.2) else (
      dm_241_151 L xs k_15 x1 x3 x4 x5 (x6 + (t4.I v11 ((x7).toNat))) x7 q20.1 63 q20.2.1 q20.2.2)) else none) else none) else (
    if dO q15.2.2 x5 11 then (
    (dm_260_r3 x5 q15.2.1 q15.2.2).bind fun q25 =>
    if (-2147483648 ≤ x7 ∧ x7 ≤ 2147483647) then (
    if ¬ x7 = 8 then (
      dm_241_151 L xs k_15 x1 x3 x4 x5 (x6 + (t4.I v11 ((x7).toNat))) x7 q25.1 ((((Int32.ofInt (97 + x7)).toUInt32 % 65536).toInt32).toInt) q25.2.1 q25.2.2) else (
      dm_241_151 L xs k_15 x1 x3 x4 x5 (x6 + (t4.I v11 ((x7).toNat))) x7 q25.1 63 q25.2.1 q25.2.2)) else none) else none)) else none) else none) else none) else none) else none) else none) else none) else none) else none) else none
theorem de_241_96 {z : iv_Z} {L : Nat} {xs : Nat → Int32} (hz : dZ z L xs) {d : Nat} (hd : 6 ≤ d) {k_15 : Nat → Int → Int → Nat → Int → Int → gx_S → dS → Option (Int × DS)} (hk_15 : ∀ (x1 : Nat) (x3 : Int) (x4 : Int) (x5 : Nat) (x6 : Int) (x7 : Int) (o8 : Option Value) (s : gx_S) (δ : dS) (q : Int × DS), k_15 x1 x3 x4 x5 x6 x7 s δ = some q → dE z 241 d 15 [some (.ref 0), some (.ref x1), some (.retAddr 0), some (.int (Int32.ofInt x3)), some (.int (Int32.ofInt x4)), some (.ref x5), some (.int (Int32.ofInt x6)), some (.int (Int32.ofInt x7)), o8] [] (s, δ) (some (.int (Int32.ofInt q.1))) q.2) (x1 : Nat) (x3 : Int) (x4 : Int) (x5 : Nat) (x6 : Int) (x7 : Int) (s0 : Nat) (s1 : Int) (s2 : Int) (s3 : Int) (o8 : Option Value) (s : gx_S) (δ : dS) (q : Int × DS) (h : dm_241_96 L xs k_15  x1 x3 x4 x5 x6 x7 s0 s1 s2 s3 s δ = some q) : dE z 241 d 96 [some (.ref 0), some (.ref x1), some (.retAddr 0), some (.int (Int32.ofInt x3)), some (.int (Int32.ofInt x4)), some (.ref x5), some (.int (Int32.ofInt x6)), some (.int (Int32.ofInt x7)), o8] [.int (Int32.ofInt s3), .int (Int32.ofInt s2), .int (Int32.ofInt s1), .ref s0] (s, δ) (some (.int (Int32.ofInt q.1))) q.2 := by
  unfold dm_241_96 at h
  obtain ⟨z1, h⟩ := fx_gd h
  refine ds_irem (p := 97) (c := Int32.ofInt (s2 % s3)) (by decide +kernel) rfl (gc_nz rfl (x := s2) z1) (ga_rem rfl rfl z1) ?_
  obtain ⟨z2, h⟩ := fx_gd h
  obtain ⟨z3, h⟩ := fx_gd h
  obtain ⟨t4, w5, h⟩ := fx_bd h
  refine ds_iastore (p := 98) (by decide +kernel) rfl z2 z3 ?_
  rw [Option.some.inj w5]
  refine ds_iload (k := 6) (p := 100) (by decide +kernel) rfl rfl ?_
  refine ds_aload_n (k := 1) (p := 101) (by decide +kernel) rfl rfl ?_
  obtain ⟨z6, h⟩ := fx_gd h
  obtain ⟨v7, w8, h⟩ := fx_bd h
  refine ds_gfr (idx := 79) (ci := 10) (j := 7) (p := 104) (by decide +kernel) rfl (by decide +kernel) z6 w8 ?_
  refine ds_iload (k := 4) (p := 106) (by decide +kernel) rfl rfl ?_
  obtain ⟨z9, h⟩ := fx_gd h
  obtain ⟨z10, h⟩ := fx_gd h
  obtain ⟨v11, w12, h⟩ := fx_bd h
  refine ds_aaload (t := 6) (p := 107) (by decide +kernel) rfl (by decide +kernel) z9 z10 w12 ?_
  refine ds_iload (k := 7) (p := 109) (by decide +kernel) rfl rfl ?_
  obtain ⟨z13, h⟩ := fx_gd h
  obtain ⟨z14, h⟩ := fx_gd h
  refine ds_iaload (p := 110) (by decide +kernel) rfl z13 z14 ?_
  refine ds_iadd (p := 111) (c := Int32.ofInt (x6 + (t4.I v11 ((x7).toNat)))) (by decide +kernel) rfl (ga_add rfl rfl) ?_
  refine ds_istore (k := 6) (p := 113) (M := 9) (al' := [some (.ref 0), some (.ref x1), some (.retAddr 0), some (.int (Int32.ofInt x3)), some (.int (Int32.ofInt x4)), some (.ref x5), some (.int (Int32.ofInt (x6 + (t4.I v11 ((x7).toNat))))), some (.int (Int32.ofInt x7)), o8]) (by decide +kernel) rfl mx_241 rfl rfl ?_
  refine ds_aload (k := 5) (p := 115) (by decide +kernel) rfl rfl ?_
  refine ds_aload (k := 5) (p := 117) (by decide +kernel) rfl rfl ?_
  obtain ⟨z17, h⟩ := fx_gd h
  obtain ⟨q15, w16, h⟩ := fx_bd h
  refine ds_callV (idx := 82) (mj := 261) (ci := 11) (na := 0) (mx := 1) (p := 120) (args := [.ref x5]) (rest := [.ref x5]) (al2 := [some (.ref x5)]) (S2 := q15.2) (by decide +kernel) rfl (by decide +kernel) (Or.inl ⟨_, rfl, Or.inl z17⟩) rfl rfl rfl rfl rfl rfl (by omega) (fun d' hd' => de_261 hz (by omega) w16) rfl ?_
  obtain ⟨z18, h⟩ := fx_gd h
  by_cases c19 : q15.1 ≤ 0
  · rw [if_pos c19] at h
    refine ds_if_le_t (off := 8) (t := 128) (by decide +kernel) (by decide +kernel) ((gc_le rfl rfl z18 (by decide)).mpr c19) ?_
    refine ds_ldcs (idx := 85) (k := 5) (p := 130) (by decide +kernel) rfl (by decide +kernel) (by decide +kernel) (dz_is5 hz) ?_
    obtain ⟨z22, h⟩ := fx_gd h
    obtain ⟨q20, w21, h⟩ := fx_bd h
    refine ds_callV (idx := 87) (mj := 260) (ci := 11) (na := 1) (mx := 2) (p := 133) (args := [.ref x5, .retAddr 5]) (rest := []) (al2 := [some (.ref x5), some (.retAddr 5)]) (S2 := q20.2) (by decide +kernel) rfl (by decide +kernel) (Or.inl ⟨_, rfl, Or.inl z22⟩) rfl rfl rfl rfl rfl rfl (by omega) (fun d' hd' => de_260_r5 hz (by omega) w21) rfl ?_
    refine ds_iload (k := 7) (p := 135) (by decide +kernel) rfl rfl ?_
    refine ds_bipush (n := 8) (p := 137) (by decide +kernel) rfl dkb_8 ?_
    obtain ⟨z23, h⟩ := fx_gd h
    by_cases c24 : ¬ x7 = 8
    · rw [if_pos c24] at h
      refine ds_icmp_ne_t (off := 8) (t := 145) (by decide +kernel) (by decide +kernel) ((gc_ne rfl rfl z23 (by decide)).mpr c24) ?_
      refine ds_bipush (n := 97) (p := 147) (by decide +kernel) rfl dkb_97 ?_
      refine ds_iload (k := 7) (p := 149) (by decide +kernel) rfl rfl ?_
      refine ds_iadd (p := 150) (c := Int32.ofInt (97 + x7)) (by decide +kernel) rfl (ga_add rfl rfl) ?_
      refine ds_i2c (p := 151) (c := Int32.ofInt (((Int32.ofInt (97 + x7)).toUInt32 % 65536).toInt32).toInt) (by decide +kernel) rfl (Int32.ofInt_toInt _).symm ?_
      exact de_241_151 hz hd hk_15 _ _ _ _ _ _ _ _ _ _ _ _ h
    · rw [if_neg c24] at h
      refine ds_icmp_ne_f (off := 8) (t := 145) (p := 140) (by decide +kernel) (by decide +kernel) rfl (fun q => c24 ((gc_ne rfl rfl z23 (by decide)).mp q)) ?_
      refine ds_bipush (n := 63) (p := 142) (by decide +kernel) rfl dkb_63 ?_
      refine ds_goto (off := 9) (p := 151) (by decide +kernel) (by decide +kernel) ?_
      exact de_241_151 hz hd hk_15 _ _ _ _ _ _ _ _ _ _ _ _ h
  · rw [if_neg c19] at h
    refine ds_if_le_f (off := 8) (t := 128) (p := 123) (by decide +kernel) (by decide +kernel) rfl (fun q => c19 ((gc_le rfl rfl z18 (by decide)).mp q)) ?_
    refine ds_ldcs (idx := 83) (k := 3) (p := 125) (by decide +kernel) rfl (by decide +kernel) (by decide +kernel) (dz_is3 hz) ?_
    refine ds_goto (off := 5) (p := 130) (by decide +kernel) (by decide +kernel) ?_
    obtain ⟨z27, h⟩ := fx_gd h
    obtain ⟨q25, w26, h⟩ := fx_bd h
    refine ds_callV (idx := 87) (mj := 260) (ci := 11) (na := 1) (mx := 2) (p := 133) (args := [.ref x5, .retAddr 3]) (rest := []) (al2 := [some (.ref x5), some (.retAddr 3)]) (S2 := q25.2) (by decide +kernel) rfl (by decide +kernel) (Or.inl ⟨_, rfl, Or.inl z27⟩) rfl rfl rfl rfl rfl rfl (by omega) (fun d' hd' => de_260_r3 hz (by omega) w26) rfl ?_
    refine ds_iload (k := 7) (p := 135) (by decide +kernel) rfl rfl ?_
    refine ds_bipush (n := 8) (p := 137) (by decide +kernel) rfl dkb_8 ?_
    obtain ⟨z28, h⟩ := fx_gd h
    by_cases c29 : ¬ x7 = 8
    · rw [if_pos c29] at h
      refine ds_icmp_ne_t (off := 8) (t := 145) (by decide +kernel) (by decide +kernel) ((gc_ne rfl rfl z28 (by decide)).mpr c29) ?_
      refine ds_bipush (n := 97) (p := 147) (by decide +kernel) rfl dkb_97 ?_
      refine ds_iload (k := 7) (p := 149) (by decide +kernel) rfl rfl ?_
      refine ds_iadd (p := 150) (c := Int32.ofInt (97 + x7)) (by decide +kernel) rfl (ga_add rfl rfl) ?_
      refine ds_i2c (p := 151) (c := Int32.ofInt (((Int32.ofInt (97 + x7)).toUInt32 % 65536).toInt32).toInt) (by decide +kernel) rfl (Int32.ofInt_toInt _).symm ?_
      exact de_241_151 hz hd hk_15 _ _ _ _ _ _ _ _ _ _ _ _ h
    · rw [if_neg c29] at h
      refine ds_icmp_ne_f (off := 8) (t := 145) (p := 140) (by decide +kernel) (by decide +kernel) rfl (fun q => c29 ((gc_ne rfl rfl z28 (by decide)).mp q)) ?_
      refine ds_bipush (n := 63) (p := 142) (by decide +kernel) rfl dkb_63 ?_
      refine ds_goto (off := 9) (p := 151) (by decide +kernel) (by decide +kernel) ?_
      exact de_241_151 hz hd hk_15 _ _ _ _ _ _ _ _ _ _ _ _ h
def dm_241_15 (L : Nat) (xs : Nat → Int32) : Nat → Nat → Int → Int → Nat → Int → Int → gx_S → dS → Option (Int × DS)
  | 0, _, _, _, _, _, _, _, _ => none
  | n + 1, x1, x3, x4, x5, x6, x7, s, δ =>
    if (-2147483648 ≤ x7 ∧ x7 ≤ 2147483647) then (
    if 9 ≤ x7 then (
      if dO δ x5 11 then (
      (dm_262 x5 s δ).bind fun q3 =>
      (dm_237 L xs q3.1 q3.2.1 q3.2.2).bind fun q6 =>
      (gm_88 x4 q6.2.1).bind fun q8 =>
      if (-2147483648 ≤ q8.1 ∧ q8.1 ≤ 2147483647) then (
      if (-2147483648 ≤ x6 ∧ x6 ≤ 2147483647) then (
      if ¬ q8.1 = x6 then (
        some (0, q8.2, q6.2.2)) else (
        some (1, q8.2, q6.2.2))) else none) else none) else none) else (
      (dm_238 L xs (x3 + x7) s δ).bind fun q13 =>
      if dO q13.2.2 x1 10 then (
      (q13.2.2.P x1 7).bind fun v16 =>
      if dA q13.2.2 6 v16 then (
      if dI q13.2.2 v16 x4 then (
      (q13.2.2.P v16 ((x4).toNat)).bind fun v20 =>
      if dA q13.2.2 0 v20 then (
      if dI q13.2.2 v20 x7 then (
      (some (q13.2.2.w v20 ((x7).toNat) 0)).bind fun t24 =>
      if 0 ≤ q13.1 ∧ q13.1 ≤ 2147483647 then (
      if (-2147483648 ≤ (q13.1 % 4) ∧ (q13.1 % 4) ≤ 2147483647) then (
      if ¬ (q13.1 % 4) = 0 then (
        if dO t24 x1 10 then (
        (t24.P x1 7).bind fun v30 =>
        if dA t24 6 v30 then (
        if dI t24 v30 x4 then (
        (t24.P v30 ((x4).toNat)).bind fun v34 =>
        if ¬ (q13.1 % 4) = 1 then (
          if ¬ (q13.1 % 4) = 2 then (
            dm_241_96 L xs (dm_241_15 L xs n) x1 x3 x4 x5 x6 x7 v34 x7 ((Int32.ofInt q13.1 >>> (Int32.ofInt 3 &&& 31)).toInt) 10000 q13.2.1 t24) else (
            dm_241_96 L xs (dm_241_15 L xs n) x1 x3 x4 x5 x6 x7 v34 x7 ((Int32.ofInt q13.1 >>> (Int32.ofInt 3 &&& 31)).toInt) 200 q13.2.1 t24)) else (
          dm_241_96 L xs (dm_241_15 L xs n) x1 x3 x4 x5 x6 x7 v34 x7 ((Int32.ofInt q13.1 >>> (Int32.ofInt 3 &&& 31)).toInt) 10 q13.2.1 t24)) else none) else none) else none) else (
        dm_241_173 L xs (dm_241_15 L xs n) x1 x3 x4 x5 x6 x7 q13.2.1 t24)) else none) else none) else none) else none) else none) else none) else none)) else none
theorem de_241_15 {z : iv_Z} {L : Nat} {xs : Nat → Int32} (hz : dZ z L xs) {d : Nat} (hd : 6 ≤ d) : ∀ (n : Nat) (x1 : Nat) (x3 : Int) (x4 : Int) (x5 : Nat) (x6 : Int) (x7 : Int) (o8 : Option Value) (s : gx_S) (δ : dS) (q : Int × DS), dm_241_15 L xs n x1 x3 x4 x5 x6 x7 s δ = some q → dE z 241 d 15 [some (.ref 0), some (.ref x1), some (.retAddr 0), some (.int (Int32.ofInt x3)), some (.int (Int32.ofInt x4)), some (.ref x5), some (.int (Int32.ofInt x6)), some (.int (Int32.ofInt x7)), o8] [] (s, δ) (some (.int (Int32.ofInt q.1))) q.2 := by
  intro n
  induction n with
  | zero =>
    intro x1 x3 x4 x5 x6 x7 o8 s δ q h
    rw [dm_241_15] at h
    exact fx_no h
  | succ n ih =>
    intro x1 x3 x4 x5 x6 x7 o8 s δ q h
    rw [dm_241_15] at h
    refine ds_iload (k := 7) (p := 17) (by decide +kernel) rfl rfl ?_
    refine ds_bipush (n := 9) (p := 19) (by decide +kernel) rfl dkb_9 ?_
    obtain ⟨z1, h⟩ := fx_gd h
    by_cases c2 : 9 ≤ x7
    · rw [if_pos c2] at h
      refine ds_icmp_ge_t (off := 160) (t := 179) (by decide +kernel) (by decide +kernel) ((gc_le rfl rfl (by decide) z1).mpr c2) ?_
      refine ds_aload_n (k := 0) (p := 180) (by decide +kernel) rfl rfl ?_
      refine ds_aload (k := 5) (p := 182) (by decide +kernel) rfl rfl ?_
      obtain ⟨z5, h⟩ := fx_gd h
      obtain ⟨q3, w4, h⟩ := fx_bd h
      refine ds_callV (idx := 35) (mj := 262) (ci := 11) (na := 0) (mx := 1) (p := 185) (args := [.ref x5]) (rest := [.ref 0]) (al2 := [some (.ref x5)]) (S2 := q3.2) (by decide +kernel) rfl (by decide +kernel) (Or.inl ⟨_, rfl, Or.inl z5⟩) rfl rfl rfl rfl rfl rfl (by omega) (fun d' hd' => de_262 hz (by omega) w4) rfl ?_
      obtain ⟨q6, w7, h⟩ := fx_bd h
      refine ds_callS (idx := 69) (mj := 237) (na := 2) (mx := 5) (p := 188) (args := [.ref 0, .ref q3.1]) (rest := []) (al2 := [some (.ref 0), some (.ref q3.1), none, none, none]) (S2 := q6.2) (by decide +kernel) rfl (by decide +kernel) rfl rfl rfl rfl rfl rfl (by omega) (fun d' hd' => de_237 hz (by omega) w7) rfl ?_
      refine ds_pop (p := 189) (by decide +kernel) rfl rfl ?_
      refine ds_aload_n (k := 0) (p := 190) (by decide +kernel) rfl rfl ?_
      refine ds_iload (k := 4) (p := 192) (by decide +kernel) rfl rfl ?_
      obtain ⟨q8, w9, h⟩ := fx_bd h
      refine ds_callV (idx := 93) (mj := 88) (ci := 9) (na := 1) (mx := 3) (p := 195) (args := [.ref 0, .int (Int32.ofInt x4)]) (rest := []) (al2 := [some (.ref 0), some (.int (Int32.ofInt x4)), none]) (S2 := (q8.2, q6.2.2)) (by decide +kernel) rfl (by decide +kernel) (Or.inl ⟨_, rfl, Or.inr fo_0⟩) rfl rfl rfl rfl rfl rfl (by omega) (fun d' hd' => dx_cls (fe_88 (by omega) (gf_88 rfl rfl w9))) rfl ?_
      refine ds_iload (k := 6) (p := 197) (by decide +kernel) rfl rfl ?_
      obtain ⟨z10, h⟩ := fx_gd h
      obtain ⟨z11, h⟩ := fx_gd h
      by_cases c12 : ¬ q8.1 = x6
      · rw [if_pos c12] at h
        refine ds_icmp_ne_t (off := 7) (t := 204) (by decide +kernel) (by decide +kernel) ((gc_ne rfl rfl z10 z11).mpr c12) ?_
        refine ds_iconst (n := 0) (p := 205) (by decide +kernel) rfl rfl ?_
        have h := Option.some.inj h
        subst h
        exact ds_iret (by decide +kernel) rt_241 (by decide +kernel)
      · rw [if_neg c12] at h
        refine ds_icmp_ne_f (off := 7) (t := 204) (p := 200) (by decide +kernel) (by decide +kernel) rfl (fun q => c12 ((gc_ne rfl rfl z10 z11).mp q)) ?_
        refine ds_iconst (n := 1) (p := 201) (by decide +kernel) rfl rfl ?_
        refine ds_goto (off := 4) (p := 205) (by decide +kernel) (by decide +kernel) ?_
        have h := Option.some.inj h
        subst h
        exact ds_iret (by decide +kernel) rt_241 (by decide +kernel)
    · rw [if_neg c2] at h
      refine ds_icmp_ge_f (off := 160) (t := 179) (p := 22) (by decide +kernel) (by decide +kernel) rfl (fun q => c2 ((gc_le rfl rfl (by decide) z1).mp q)) ?_
      refine ds_aload_n_a (k := 2) (p := 23) (by decide +kernel) rfl rfl ?_
      refine ds_iload_n (k := 3) (p := 24) (by decide +kernel) rfl rfl ?_
      refine ds_iload (k := 7) (p := 26) (by decide +kernel) rfl rfl ?_
      refine ds_iadd (p := 27) (c := Int32.ofInt (x3 + x7)) (by decide +kernel) rfl (ga_add rfl rfl) ?_
      obtain ⟨q13, w14, h⟩ := fx_bd h
      refine ds_callS (idx := 42) (mj := 238) (na := 2) (mx := 2) (p := 30) (args := [.retAddr 0, .int (Int32.ofInt (x3 + x7))]) (rest := []) (al2 := [some (.retAddr 0), some (.int (Int32.ofInt (x3 + x7)))]) (S2 := q13.2) (by decide +kernel) rfl (by decide +kernel) rfl rfl rfl rfl rfl rfl (by omega) (fun d' hd' => de_238 hz (by omega) w14) rfl ?_
      refine ds_istore (k := 8) (p := 32) (M := 9) (al' := [some (.ref 0), some (.ref x1), some (.retAddr 0), some (.int (Int32.ofInt x3)), some (.int (Int32.ofInt x4)), some (.ref x5), some (.int (Int32.ofInt x6)), some (.int (Int32.ofInt x7)), some (.int (Int32.ofInt q13.1))]) (by decide +kernel) rfl mx_241 rfl rfl ?_
      refine ds_aload_n (k := 1) (p := 33) (by decide +kernel) rfl rfl ?_
      obtain ⟨z15, h⟩ := fx_gd h
      obtain ⟨v16, w17, h⟩ := fx_bd h
      refine ds_gfr (idx := 79) (ci := 10) (j := 7) (p := 36) (by decide +kernel) rfl (by decide +kernel) z15 w17 ?_
      refine ds_iload (k := 4) (p := 38) (by decide +kernel) rfl rfl ?_
      obtain ⟨z18, h⟩ := fx_gd h
      obtain ⟨z19, h⟩ := fx_gd h
      obtain ⟨v20, w21, h⟩ := fx_bd h
      refine ds_aaload (t := 6) (p := 39) (by decide +kernel) rfl (by decide +kernel) z18 z19 w21 ?_
      refine ds_iload (k := 7) (p := 41) (by decide +kernel) rfl rfl ?_
      refine ds_iconst (n := 0) (p := 42) (by decide +kernel) rfl rfl ?_
      obtain ⟨z22, h⟩ := fx_gd h
      obtain ⟨z23, h⟩ := fx_gd h
      obtain ⟨t24, w25, h⟩ := fx_bd h
      refine ds_iastore (p := 43) (by decide +kernel) rfl z22 z23 ?_
      rw [Option.some.inj w25]
      refine ds_iload (k := 8) (p := 45) (by decide +kernel) rfl rfl ?_
      refine ds_iconst (n := 4) (p := 46) (by decide +kernel) rfl rfl ?_
      obtain ⟨z26, h⟩ := fx_gd h
      refine ds_irem (p := 47) (c := Int32.ofInt (q13.1 % 4)) (by decide +kernel) rfl (gc_nz rfl (x := q13.1) ⟨z26.1, z26.2, by decide, by decide⟩) (ga_rem rfl rfl ⟨z26.1, z26.2, by decide, by decide⟩) ?_
      obtain ⟨z27, h⟩ := fx_gd h
      by_cases c28 : ¬ (q13.1 % 4) = 0
      · rw [if_pos c28] at h
        refine ds_if_ne_t (off := 6) (t := 53) (by decide +kernel) (by decide +kernel) ((gc_ne rfl rfl z27 (by decide)).mpr c28) ?_
        refine ds_aload_n (k := 1) (p := 54) (by decide +kernel) rfl rfl ?_
        obtain ⟨z29, h⟩ := fx_gd h
        obtain ⟨v30, w31, h⟩ := fx_bd h
        refine ds_gfr (idx := 79) (ci := 10) (j := 7) (p := 57) (by decide +kernel) rfl (by decide +kernel) z29 w31 ?_
        refine ds_iload (k := 4) (p := 59) (by decide +kernel) rfl rfl ?_
        obtain ⟨z32, h⟩ := fx_gd h
        obtain ⟨z33, h⟩ := fx_gd h
        obtain ⟨v34, w35, h⟩ := fx_bd h
        refine ds_aaload (t := 6) (p := 60) (by decide +kernel) rfl (by decide +kernel) z32 z33 w35 ?_
        refine ds_iload (k := 7) (p := 62) (by decide +kernel) rfl rfl ?_
        refine ds_iload (k := 8) (p := 64) (by decide +kernel) rfl rfl ?_
        refine ds_iconst (n := 3) (p := 65) (by decide +kernel) rfl rfl ?_
        refine ds_ishr (p := 66) (c := Int32.ofInt (Int32.ofInt q13.1 >>> (Int32.ofInt 3 &&& 31)).toInt) (by decide +kernel) rfl (Int32.ofInt_toInt _).symm ?_
        refine ds_iload (k := 8) (p := 68) (by decide +kernel) rfl rfl ?_
        refine ds_iconst (n := 4) (p := 69) (by decide +kernel) rfl rfl ?_
        refine ds_irem (p := 70) (c := Int32.ofInt (q13.1 % 4)) (by decide +kernel) rfl (gc_nz rfl (x := q13.1) ⟨z26.1, z26.2, by decide, by decide⟩) (ga_rem rfl rfl ⟨z26.1, z26.2, by decide, by decide⟩) ?_
        refine ds_iconst (n := 1) (p := 71) (by decide +kernel) rfl rfl ?_
        by_cases c36 : ¬ (q13.1 % 4) = 1
        · rw [if_pos c36] at h
          refine ds_icmp_ne_t (off := 8) (t := 79) (by decide +kernel) (by decide +kernel) ((gc_ne rfl rfl z27 (by decide)).mpr c36) ?_
          refine ds_iload (k := 8) (p := 81) (by decide +kernel) rfl rfl ?_
          refine ds_iconst (n := 4) (p := 82) (by decide +kernel) rfl rfl ?_
          refine ds_irem (p := 83) (c := Int32.ofInt (q13.1 % 4)) (by decide +kernel) rfl (gc_nz rfl (x := q13.1) ⟨z26.1, z26.2, by decide, by decide⟩) (ga_rem rfl rfl ⟨z26.1, z26.2, by decide, by decide⟩) ?_
          refine ds_iconst (n := 2) (p := 84) (by decide +kernel) rfl rfl ?_
          by_cases c37 : ¬ (q13.1 % 4) = 2
          · rw [if_pos c37] at h
            refine ds_icmp_ne_t (off := 9) (t := 93) (by decide +kernel) (by decide +kernel) ((gc_ne rfl rfl z27 (by decide)).mpr c37) ?_
            refine ds_sipush (n := 10000) (p := 96) (by decide +kernel) rfl dks_10000 ?_
            exact de_241_96 hz hd ih _ _ _ _ _ _ _ _ _ _ _ _ _ _ h
          · rw [if_neg c37] at h
            refine ds_icmp_ne_f (off := 9) (t := 93) (p := 87) (by decide +kernel) (by decide +kernel) rfl (fun q => c37 ((gc_ne rfl rfl z27 (by decide)).mp q)) ?_
            refine ds_sipush (n := 200) (p := 90) (by decide +kernel) rfl dks_200 ?_
            refine ds_goto (off := 6) (p := 96) (by decide +kernel) (by decide +kernel) ?_
            exact de_241_96 hz hd ih _ _ _ _ _ _ _ _ _ _ _ _ _ _ h
        · rw [if_neg c36] at h
          refine ds_icmp_ne_f (off := 8) (t := 79) (p := 74) (by decide +kernel) (by decide +kernel) rfl (fun q => c36 ((gc_ne rfl rfl z27 (by decide)).mp q)) ?_
          refine ds_bipush (n := 10) (p := 76) (by decide +kernel) rfl dkb_10 ?_
          refine ds_goto (off := 20) (p := 96) (by decide +kernel) (by decide +kernel) ?_
          exact de_241_96 hz hd ih _ _ _ _ _ _ _ _ _ _ _ _ _ _ h
      · rw [if_neg c28] at h
        refine ds_if_ne_f (off := 6) (t := 53) (p := 50) (by decide +kernel) (by decide +kernel) rfl (fun q => c28 ((gc_ne rfl rfl z27 (by decide)).mp q)) ?_
        refine ds_goto (off := 123) (p := 173) (by decide +kernel) (by decide +kernel) ?_
        exact de_241_173 hz hd ih _ _ _ _ _ _ _ _ _ _ h
def dm_241 (L : Nat) (xs : Nat → Int32) (x1 : Nat) (x3 : Int) (x4 : Int) (s : gx_S) (δ : dS) : Option (Int × DS) :=
  (some (δ.al (100 + 11) (dnf 11))).bind fun t1 =>
  if dO t1 δ.n 11 then (
  (dm_257 δ.n s t1).bind fun q3 =>
  dm_241_15 L xs 100000 x1 x3 x4 δ.n 0 0 q3.1 q3.2) else none
theorem de_241 {z : iv_Z} {L : Nat} {xs : Nat → Int32} (hz : dZ z L xs) {d : Nat} (hd : 6 ≤ d) {x1 : Nat} {x3 : Int} {x4 : Int} {s : gx_S} {δ : dS} {q : Int × DS} (h : dm_241 L xs x1 x3 x4 s δ = some q) : dE z 241 d 0 [some (.ref 0), some (.ref x1), some (.retAddr 0), some (.int (Int32.ofInt x3)), some (.int (Int32.ofInt x4)), none, none, none, none] [] (s, δ) (some (.int (Int32.ofInt q.1))) q.2 := by
  unfold dm_241 at h
  obtain ⟨t1, w2, h⟩ := fx_bd h
  refine ds_new (idx := 28) (ci := 11) (p := 3) (by decide +kernel) rfl (by decide +kernel) (by decide +kernel) ?_
  rw [Option.some.inj w2]
  refine ds_dup (p := 4) (by decide +kernel) rfl rfl ?_
  obtain ⟨z5, h⟩ := fx_gd h
  obtain ⟨q3, w4, h⟩ := fx_bd h
  refine ds_callP (idx := 30) (mj := 257) (ci := 11) (na := 0) (mx := 1) (p := 7) (args := [.ref δ.n]) (rest := [.ref δ.n]) (al2 := [some (.ref δ.n)]) (S2 := q3) (by decide +kernel) rfl (by decide +kernel) (Or.inl ⟨_, rfl, Or.inl z5⟩) rfl rfl rfl rfl rfl rfl (by omega) (fun d' hd' => de_257 hz (by omega) w4) rfl ?_
  refine ds_astore (k := 5) (p := 9) (M := 9) (al' := [some (.ref 0), some (.ref x1), some (.retAddr 0), some (.int (Int32.ofInt x3)), some (.int (Int32.ofInt x4)), some (.ref δ.n), none, none, none]) (by decide +kernel) rfl mx_241 rfl rfl ?_
  refine ds_iconst (n := 0) (p := 10) (by decide +kernel) rfl rfl ?_
  refine ds_istore (k := 6) (p := 12) (M := 9) (al' := [some (.ref 0), some (.ref x1), some (.retAddr 0), some (.int (Int32.ofInt x3)), some (.int (Int32.ofInt x4)), some (.ref δ.n), some (.int (Int32.ofInt 0)), none, none]) (by decide +kernel) rfl mx_241 rfl rfl ?_
  refine ds_iconst (n := 0) (p := 13) (by decide +kernel) rfl rfl ?_
  refine ds_istore (k := 7) (p := 15) (M := 9) (al' := [some (.ref 0), some (.ref x1), some (.retAddr 0), some (.int (Int32.ofInt x3)), some (.int (Int32.ofInt x4)), some (.ref δ.n), some (.int (Int32.ofInt 0)), some (.int (Int32.ofInt 0)), none]) (by decide +kernel) rfl mx_241 rfl rfl ?_
  exact de_241_15 hz hd 100000 _ _ _ _ _ _ _ _ _ _ h
