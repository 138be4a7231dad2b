/-! ZoneSharesLaw.settings(LZoneShares;LZoneSharesLaw$Map;II)Z c d -/
theorem mx_242 : iv_mx 242 = 7 := by decide +kernel
theorem rt_242 : iv_rt 242 = some .boolean := by decide +kernel
def dm_242_246 (L : Nat) (xs : Nat → Int32) (k_195 : Nat → Int → Int → gx_S → dS → Option (Int × DS)) (x1 : Nat) (x3 : Int) (x4 : Int) (s0 : Int) (s1 : Int) (s : gx_S) (δ : dS) : Option (Int × DS) :=
  if (-2147483648 ≤ s0 ∧ s0 ≤ 2147483647) then (
  if (-2147483648 ≤ s1 ∧ s1 ≤ 2147483647) then (
  if s0 = s1 then (
    k_195 x1 x3 (x4 + 1) s δ) else (
    some (0, s, δ))) else none) else none
theorem de_242_246 {z : iv_Z} {L : Nat} {xs : Nat → Int32} (hz : dZ z L xs) {d : Nat} (hd : 4 ≤ d) {k_195 : Nat → Int → Int → gx_S → dS → Option (Int × DS)} (hk_195 : ∀ (x1 : Nat) (x3 : Int) (x4 : Int) (o2 : Option Value) (o5 : Option Value) (o6 : Option Value) (s : gx_S) (δ : dS) (q : Int × DS), k_195 x1 x3 x4 s δ = some q → dE z 242 d 195 [some (.ref 0), some (.ref x1), o2, some (.int (Int32.ofInt x3)), some (.int (Int32.ofInt x4)), o5, o6] [] (s, δ) (some (.int (Int32.ofInt q.1))) q.2) (x1 : Nat) (x3 : Int) (x4 : Int) (s0 : Int) (s1 : Int) (o2 : Option Value) (o5 : Option Value) (o6 : Option Value) (s : gx_S) (δ : dS) (q : Int × DS) (h : dm_242_246 L xs k_195  x1 x3 x4 s0 s1 s δ = some q) : dE z 242 d 246 [some (.ref 0), some (.ref x1), o2, some (.int (Int32.ofInt x3)), some (.int (Int32.ofInt x4)), o5, o6] [.int (Int32.ofInt s1), .int (Int32.ofInt s0)] (s, δ) (some (.int (Int32.ofInt q.1))) q.2 := by
  unfold dm_242_246 at h
  obtain ⟨z1, h⟩ := fx_gd h
  obtain ⟨z2, h⟩ := fx_gd h
  by_cases c3 : s0 = s1
  · rw [if_pos c3] at h
    refine ds_icmp_eq_t (off := 5) (t := 251) (by decide +kernel) (by decide +kernel) ((gc_eq rfl rfl z1 z2).mpr c3) ?_
    refine ds_iinc (k := 4) (n := 1) (p := 254) (M := 7) (y := Int32.ofInt (x4 + 1)) (al' := [some (.ref 0), some (.ref x1), o2, some (.int (Int32.ofInt x3)), some (.int (Int32.ofInt (x4 + 1))), o5, o6]) (by decide +kernel) rfl rfl mx_242 rfl rfl (ga_add rfl rfl) rfl ?_
    refine ds_goto (off := -59) (p := 195) (by decide +kernel) (by decide +kernel) ?_
    exact hk_195 _ _ _ _ _ _ _ _ _ h
  · rw [if_neg c3] at h
    refine ds_icmp_eq_f (off := 5) (t := 251) (p := 249) (by decide +kernel) (by decide +kernel) rfl (fun q => c3 ((gc_eq rfl rfl z1 z2).mp q)) ?_
    refine ds_iconst (n := 0) (p := 250) (by decide +kernel) rfl rfl ?_
    have h := Option.some.inj h
    subst h
    exact ds_iret (by decide +kernel) rt_242 (by decide +kernel)
def dm_242_195 (L : Nat) (xs : Nat → Int32) : Nat → Nat → Int → Int → gx_S → dS → Option (Int × DS)
  | 0, _, _, _, _, _ => none
  | n + 1, x1, x3, x4, s, δ =>
    if (-2147483648 ≤ x4 ∧ x4 ≤ 2147483647) then (
    if 8 ≤ x4 then (
      some (1, s, δ)) else (
      if dO δ x1 10 then (
      (δ.P x1 9).bind fun v4 =>
      if dA δ 0 v4 then (
      if dI δ v4 x4 then (
      (some (δ.w v4 ((x4).toNat) ((Int32.ofInt ((Int32.ofInt x3 >>> (Int32.ofInt (2 * x4) &&& 31)).toInt) &&& Int32.ofInt 3).toInt))).bind fun t8 =>
      if dO t8 x1 10 then (
      (t8.P x1 9).bind fun v11 =>
      if dA t8 0 v11 then (
      if dI t8 v11 x4 then (
      (gm_91 x4 (t8.I v11 ((x4).toNat)) s).bind fun q15 =>
      (t8.P x1 9).bind fun v17 =>
      if dA t8 0 v17 then (
      if dI t8 v17 x4 then (
      if (-2147483648 ≤ (t8.I v17 ((x4).toNat)) ∧ (t8.I v17 ((x4).toNat)) ≤ 2147483647) then (
      if ¬ (t8.I v17 ((x4).toNat)) = 0 then (
        dm_242_246 L xs (dm_242_195 L xs n) x1 x3 x4 q15.1 0 q15.2 t8) else (
        dm_242_246 L xs (dm_242_195 L xs n) x1 x3 x4 q15.1 (-2) q15.2 t8)) else none) else none) else none) else none) else none) else none) else none) else none) else none)) else none
theorem de_242_195 {z : iv_Z} {L : Nat} {xs : Nat → Int32} (hz : dZ z L xs) {d : Nat} (hd : 4 ≤ d) : ∀ (n : Nat) (x1 : Nat) (x3 : Int) (x4 : Int) (o2 : Option Value) (o5 : Option Value) (o6 : Option Value) (s : gx_S) (δ : dS) (q : Int × DS), dm_242_195 L xs n x1 x3 x4 s δ = some q → dE z 242 d 195 [some (.ref 0), some (.ref x1), o2, some (.int (Int32.ofInt x3)), some (.int (Int32.ofInt x4)), o5, o6] [] (s, δ) (some (.int (Int32.ofInt q.1))) q.2 := by
  intro n
  induction n with
  | zero =>
    intro x1 x3 x4 o2 o5 o6 s δ q h
    rw [dm_242_195] at h
    exact fx_no h
  | succ n ih =>
    intro x1 x3 x4 o2 o5 o6 s δ q h
    rw [dm_242_195] at h
    refine ds_iload (k := 4) (p := 197) (by decide +kernel) rfl rfl ?_
    refine ds_bipush (n := 8) (p := 199) (by decide +kernel) rfl dkb_8 ?_
    obtain ⟨z1, h⟩ := fx_gd h
    by_cases c2 : 8 ≤ x4
    · rw [if_pos c2] at h
      refine ds_icmp_ge_t (off := 58) (t := 257) (by decide +kernel) (by decide +kernel) ((gc_le rfl rfl (by decide) z1).mpr c2) ?_
      refine ds_iconst (n := 1) (p := 258) (by decide +kernel) rfl rfl ?_
      have h := Option.some.inj h
      subst h
      exact ds_iret (by decide +kernel) rt_242 (by decide +kernel)
    · rw [if_neg c2] at h
      refine ds_icmp_ge_f (off := 58) (t := 257) (p := 202) (by decide +kernel) (by decide +kernel) rfl (fun q => c2 ((gc_le rfl rfl (by decide) z1).mp q)) ?_
      refine ds_aload_n (k := 1) (p := 203) (by decide +kernel) rfl rfl ?_
      obtain ⟨z3, h⟩ := fx_gd h
      obtain ⟨v4, w5, h⟩ := fx_bd h
      refine ds_gfr (idx := 110) (ci := 10) (j := 9) (p := 206) (by decide +kernel) rfl (by decide +kernel) z3 w5 ?_
      refine ds_iload (k := 4) (p := 208) (by decide +kernel) rfl rfl ?_
      refine ds_iload_n (k := 3) (p := 209) (by decide +kernel) rfl rfl ?_
      refine ds_iconst (n := 2) (p := 210) (by decide +kernel) rfl rfl ?_
      refine ds_iload (k := 4) (p := 212) (by decide +kernel) rfl rfl ?_
      refine ds_imul (p := 213) (c := Int32.ofInt (2 * x4)) (by decide +kernel) rfl (ga_mul rfl rfl) ?_
      refine ds_ishr (p := 214) (c := Int32.ofInt (Int32.ofInt x3 >>> (Int32.ofInt (2 * x4) &&& 31)).toInt) (by decide +kernel) rfl (Int32.ofInt_toInt _).symm ?_
      refine ds_iconst (n := 3) (p := 215) (by decide +kernel) rfl rfl ?_
      refine ds_iand (p := 216) (c := Int32.ofInt (Int32.ofInt ((Int32.ofInt x3 >>> (Int32.ofInt (2 * x4) &&& 31)).toInt) &&& Int32.ofInt 3).toInt) (by decide +kernel) rfl (Int32.ofInt_toInt _).symm ?_
      obtain ⟨z6, h⟩ := fx_gd h
      obtain ⟨z7, h⟩ := fx_gd h
      obtain ⟨t8, w9, h⟩ := fx_bd h
      refine ds_iastore (p := 217) (by decide +kernel) rfl z6 z7 ?_
      rw [Option.some.inj w9]
      refine ds_aload_n (k := 0) (p := 218) (by decide +kernel) rfl rfl ?_
      refine ds_iload (k := 4) (p := 220) (by decide +kernel) rfl rfl ?_
      refine ds_aload_n (k := 1) (p := 221) (by decide +kernel) rfl rfl ?_
      obtain ⟨z10, h⟩ := fx_gd h
      obtain ⟨v11, w12, h⟩ := fx_bd h
      refine ds_gfr (idx := 110) (ci := 10) (j := 9) (p := 224) (by decide +kernel) rfl (by decide +kernel) z10 w12 ?_
      refine ds_iload (k := 4) (p := 226) (by decide +kernel) rfl rfl ?_
      obtain ⟨z13, h⟩ := fx_gd h
      obtain ⟨z14, h⟩ := fx_gd h
      refine ds_iaload (p := 227) (by decide +kernel) rfl z13 z14 ?_
      obtain ⟨q15, w16, h⟩ := fx_bd h
      refine ds_callV (idx := 113) (mj := 91) (ci := 9) (na := 2) (mx := 4) (p := 230) (args := [.ref 0, .int (Int32.ofInt x4), .int (Int32.ofInt (t8.I v11 ((x4).toNat)))]) (rest := []) (al2 := [some (.ref 0), some (.int (Int32.ofInt x4)), some (.int (Int32.ofInt (t8.I v11 ((x4).toNat)))), none]) (S2 := (q15.2, t8)) (by decide +kernel) rfl (by decide +kernel) (Or.inl ⟨_, rfl, Or.inr fo_0⟩) rfl rfl rfl rfl rfl rfl (by omega) (fun d' hd' => dx_cls (fe_91 (by omega) (gf_91 rfl rfl rfl w16))) rfl ?_
      refine ds_aload_n (k := 1) (p := 231) (by decide +kernel) rfl rfl ?_
      obtain ⟨v17, w18, h⟩ := fx_bd h
      refine ds_gfr (idx := 110) (ci := 10) (j := 9) (p := 234) (by decide +kernel) rfl (by decide +kernel) z10 w18 ?_
      refine ds_iload (k := 4) (p := 236) (by decide +kernel) rfl rfl ?_
      obtain ⟨z19, h⟩ := fx_gd h
      obtain ⟨z20, h⟩ := fx_gd h
      refine ds_iaload (p := 237) (by decide +kernel) rfl z19 z20 ?_
      obtain ⟨z21, h⟩ := fx_gd h
      by_cases c22 : ¬ (t8.I v17 ((x4).toNat)) = 0
      · rw [if_pos c22] at h
        refine ds_if_ne_t (off := 8) (t := 245) (by decide +kernel) (by decide +kernel) ((gc_ne rfl rfl z21 (by decide)).mpr c22) ?_
        refine ds_iconst (n := 0) (p := 246) (by decide +kernel) rfl rfl ?_
        exact de_242_246 hz hd ih _ _ _ _ _ _ _ _ _ _ _ h
      · rw [if_neg c22] at h
        refine ds_if_ne_f (off := 8) (t := 245) (p := 240) (by decide +kernel) (by decide +kernel) rfl (fun q => c22 ((gc_ne rfl rfl z21 (by decide)).mp q)) ?_
        refine ds_bipush (n := -2) (p := 242) (by decide +kernel) rfl dkb_m2 ?_
        refine ds_goto (off := 4) (p := 246) (by decide +kernel) (by decide +kernel) ?_
        exact de_242_246 hz hd ih _ _ _ _ _ _ _ _ _ _ _ h
def dm_242_187 (L : Nat) (xs : Nat → Int32) (x1 : Nat) (x3 : Int) (s0 : Int) (s1 : Int) (s : gx_S) (δ : dS) : Option (Int × DS) :=
  if (-2147483648 ≤ s0 ∧ s0 ≤ 2147483647) then (
  if (-2147483648 ≤ s1 ∧ s1 ≤ 2147483647) then (
  if s0 = s1 then (
    dm_242_195 L xs 100000 x1 x3 0 s δ) else (
    some (0, s, δ))) else none) else none
theorem de_242_187 {z : iv_Z} {L : Nat} {xs : Nat → Int32} (hz : dZ z L xs) {d : Nat} (hd : 4 ≤ d) (x1 : Nat) (x3 : Int) (s0 : Int) (s1 : Int) (o2 : Option Value) (o4 : Option Value) (o5 : Option Value) (o6 : Option Value) (s : gx_S) (δ : dS) (q : Int × DS) (h : dm_242_187 L xs  x1 x3 s0 s1 s δ = some q) : dE z 242 d 187 [some (.ref 0), some (.ref x1), o2, some (.int (Int32.ofInt x3)), o4, o5, o6] [.int (Int32.ofInt s1), .int (Int32.ofInt s0)] (s, δ) (some (.int (Int32.ofInt q.1))) q.2 := by
  unfold dm_242_187 at h
  obtain ⟨z1, h⟩ := fx_gd h
  obtain ⟨z2, h⟩ := fx_gd h
  by_cases c3 : s0 = s1
  · rw [if_pos c3] at h
    refine ds_icmp_eq_t (off := 5) (t := 192) (by decide +kernel) (by decide +kernel) ((gc_eq rfl rfl z1 z2).mpr c3) ?_
    refine ds_iconst (n := 0) (p := 193) (by decide +kernel) rfl rfl ?_
    refine ds_istore (k := 4) (p := 195) (M := 7) (al' := [some (.ref 0), some (.ref x1), o2, some (.int (Int32.ofInt x3)), some (.int (Int32.ofInt 0)), o5, o6]) (by decide +kernel) rfl mx_242 rfl rfl ?_
    exact de_242_195 hz hd 100000 _ _ _ _ _ _ _ _ _ h
  · rw [if_neg c3] at h
    refine ds_icmp_eq_f (off := 5) (t := 192) (p := 190) (by decide +kernel) (by decide +kernel) rfl (fun q => c3 ((gc_eq rfl rfl z1 z2).mp q)) ?_
    refine ds_iconst (n := 0) (p := 191) (by decide +kernel) rfl rfl ?_
    have h := Option.some.inj h
    subst h
    exact ds_iret (by decide +kernel) rt_242 (by decide +kernel)
def dm_242_162 (L : Nat) (xs : Nat → Int32) (x1 : Nat) (x3 : Int) (s0 : Int) (s1 : Int) (s : gx_S) (δ : dS) : Option (Int × DS) :=
  if (-2147483648 ≤ s0 ∧ s0 ≤ 2147483647) then (
  if (-2147483648 ≤ s1 ∧ s1 ≤ 2147483647) then (
  if ¬ s0 = s1 then (
    some (0, s, δ)) else (
    if dO δ x1 10 then (
    (gm_90 1 (δ.I x1 3) s).bind fun q5 =>
    if (-2147483648 ≤ (δ.I x1 3) ∧ (δ.I x1 3) ≤ 2147483647) then (
    if ¬ (δ.I x1 3) = 0 then (
      dm_242_187 L xs x1 x3 q5.1 0 q5.2 δ) else (
      dm_242_187 L xs x1 x3 q5.1 (-2) q5.2 δ)) else none) else none)) else none) else none
theorem de_242_162 {z : iv_Z} {L : Nat} {xs : Nat → Int32} (hz : dZ z L xs) {d : Nat} (hd : 4 ≤ d) (x1 : Nat) (x3 : Int) (s0 : Int) (s1 : Int) (o2 : Option Value) (o4 : Option Value) (o5 : Option Value) (o6 : Option Value) (s : gx_S) (δ : dS) (q : Int × DS) (h : dm_242_162 L xs  x1 x3 s0 s1 s δ = some q) : dE z 242 d 162 [some (.ref 0), some (.ref x1), o2, some (.int (Int32.ofInt x3)), o4, o5, o6] [.int (Int32.ofInt s1), .int (Int32.ofInt s0)] (s, δ) (some (.int (Int32.ofInt q.1))) q.2 := by
  unfold dm_242_162 at h
  obtain ⟨z1, h⟩ := fx_gd h
  obtain ⟨z2, h⟩ := fx_gd h
  by_cases c3 : ¬ s0 = s1
  · rw [if_pos c3] at h
    refine ds_icmp_ne_t (off := 28) (t := 190) (by decide +kernel) (by decide +kernel) ((gc_ne rfl rfl z1 z2).mpr c3) ?_
    refine ds_iconst (n := 0) (p := 191) (by decide +kernel) rfl rfl ?_
    have h := Option.some.inj h
    subst h
    exact ds_iret (by decide +kernel) rt_242 (by decide +kernel)
  · rw [if_neg c3] at h
    refine ds_icmp_ne_f (off := 28) (t := 190) (p := 165) (by decide +kernel) (by decide +kernel) rfl (fun q => c3 ((gc_ne rfl rfl z1 z2).mp q)) ?_
    refine ds_aload_n (k := 0) (p := 166) (by decide +kernel) rfl rfl ?_
    refine ds_iconst (n := 1) (p := 167) (by decide +kernel) rfl rfl ?_
    refine ds_aload_n (k := 1) (p := 168) (by decide +kernel) rfl rfl ?_
    obtain ⟨z4, h⟩ := fx_gd h
    refine ds_gfi (idx := 103) (ci := 10) (j := 3) (p := 171) (by decide +kernel) rfl (by decide +kernel) z4 ?_
    obtain ⟨q5, w6, h⟩ := fx_bd h
    refine ds_callV (idx := 106) (mj := 90) (ci := 9) (na := 2) (mx := 4) (p := 174) (args := [.ref 0, .int (Int32.ofInt 1), .int (Int32.ofInt (δ.I x1 3))]) (rest := []) (al2 := [some (.ref 0), some (.int (Int32.ofInt 1)), some (.int (Int32.ofInt (δ.I x1 3))), none]) (S2 := (q5.2, δ)) (by decide +kernel) rfl (by decide +kernel) (Or.inl ⟨_, rfl, Or.inr fo_0⟩) rfl rfl rfl rfl rfl rfl (by omega) (fun d' hd' => dx_cls (fe_90 (by omega) (gf_90 rfl rfl rfl w6))) rfl ?_
    refine ds_aload_n (k := 1) (p := 175) (by decide +kernel) rfl rfl ?_
    refine ds_gfi (idx := 103) (ci := 10) (j := 3) (p := 178) (by decide +kernel) rfl (by decide +kernel) z4 ?_
    obtain ⟨z7, h⟩ := fx_gd h
    by_cases c8 : ¬ (δ.I x1 3) = 0
    · rw [if_pos c8] at h
      refine ds_if_ne_t (off := 8) (t := 186) (by decide +kernel) (by decide +kernel) ((gc_ne rfl rfl z7 (by decide)).mpr c8) ?_
      refine ds_iconst (n := 0) (p := 187) (by decide +kernel) rfl rfl ?_
      exact de_242_187 hz hd _ _ _ _ _ _ _ _ _ _ _ h
    · rw [if_neg c8] at h
      refine ds_if_ne_f (off := 8) (t := 186) (p := 181) (by decide +kernel) (by decide +kernel) rfl (fun q => c8 ((gc_ne rfl rfl z7 (by decide)).mp q)) ?_
      refine ds_bipush (n := -2) (p := 183) (by decide +kernel) rfl dkb_m2 ?_
      refine ds_goto (off := 4) (p := 187) (by decide +kernel) (by decide +kernel) ?_
      exact de_242_187 hz hd _ _ _ _ _ _ _ _ _ _ _ h
def dm_242_97 (L : Nat) (xs : Nat → Int32) (k_3 : Nat → Int → Int → Int → gx_S → dS → Option (Int × DS)) (x1 : Nat) (x2 : Int) (x3 : Int) (x4 : Int) (x5 : Int) (s0 : Int) (s1 : Int) (s : gx_S) (δ : dS) : Option (Int × DS) :=
  if (-2147483648 ≤ s0 ∧ s0 ≤ 2147483647) then (
  if (-2147483648 ≤ s1 ∧ s1 ≤ 2147483647) then (
  if s0 = s1 then (
    if dO δ x1 10 then (
    (δ.P x1 8).bind fun v5 =>
    if 0 ≤ x4 ∧ x4 ≤ 2147483647 then (
    if dA δ 6 v5 then (
    if dI δ v5 (x4 / 4) then (
    (δ.P v5 (((x4 / 4)).toNat)).bind fun v10 =>
    if dA δ 0 v10 then (
    if dI δ v10 (x4 % 4) then (
    (some (δ.w v10 (((x4 % 4)).toNat) x5)).bind fun t14 =>
    k_3 x1 x2 x3 (x4 + 1) s t14) else none) else none) else none) else none) else none) else none) else (
    some (0, s, δ))) else none) else none
theorem de_242_97 {z : iv_Z} {L : Nat} {xs : Nat → Int32} (hz : dZ z L xs) {d : Nat} (hd : 4 ≤ d) {k_3 : Nat → Int → Int → Int → gx_S → dS → Option (Int × DS)} (hk_3 : ∀ (x1 : Nat) (x2 : Int) (x3 : Int) (x4 : Int) (o5 : Option Value) (o6 : Option Value) (s : gx_S) (δ : dS) (q : Int × DS), k_3 x1 x2 x3 x4 s δ = some q → dE z 242 d 3 [some (.ref 0), some (.ref x1), some (.int (Int32.ofInt x2)), some (.int (Int32.ofInt x3)), some (.int (Int32.ofInt x4)), o5, o6] [] (s, δ) (some (.int (Int32.ofInt q.1))) q.2) (x1 : Nat) (x2 : Int) (x3 : Int) (x4 : Int) (x5 : Int) (s0 : Int) (s1 : Int) (o6 : Option Value) (s : gx_S) (δ : dS) (q : Int × DS) (h : dm_242_97 L xs k_3  x1 x2 x3 x4 x5 s0 s1 s δ = some q) : dE z 242 d 97 [some (.ref 0), some (.ref x1), some (.int (Int32.ofInt x2)), some (.int (Int32.ofInt x3)), some (.int (Int32.ofInt x4)), some (.int (Int32.ofInt x5)), o6] [.int (Int32.ofInt s1), .int (Int32.ofInt s0)] (s, δ) (some (.int (Int32.ofInt q.1))) q.2 := by
  unfold dm_242_97 at h
  obtain ⟨z1, h⟩ := fx_gd h
  obtain ⟨z2, h⟩ := fx_gd h
  by_cases c3 : s0 = s1
  · rw [if_pos c3] at h
    refine ds_icmp_eq_t (off := 5) (t := 102) (by decide +kernel) (by decide +kernel) ((gc_eq rfl rfl z1 z2).mpr c3) ?_
    refine ds_aload_n (k := 1) (p := 103) (by decide +kernel) rfl rfl ?_
    obtain ⟨z4, h⟩ := fx_gd h
    obtain ⟨v5, w6, h⟩ := fx_bd h
    refine ds_gfr (idx := 75) (ci := 10) (j := 8) (p := 106) (by decide +kernel) rfl (by decide +kernel) z4 w6 ?_
    refine ds_iload (k := 4) (p := 108) (by decide +kernel) rfl rfl ?_
    refine ds_iconst (n := 4) (p := 109) (by decide +kernel) rfl rfl ?_
    obtain ⟨z7, h⟩ := fx_gd h
    refine ds_idiv (p := 110) (c := Int32.ofInt (x4 / 4)) (by decide +kernel) rfl (gc_nz rfl (x := x4) ⟨z7.1, z7.2, by decide, by decide⟩) (ga_div rfl rfl ⟨z7.1, z7.2, by decide, by decide⟩) ?_
    obtain ⟨z8, h⟩ := fx_gd h
    obtain ⟨z9, h⟩ := fx_gd h
    obtain ⟨v10, w11, h⟩ := fx_bd h
    refine ds_aaload (t := 6) (p := 111) (by decide +kernel) rfl (by decide +kernel) z8 z9 w11 ?_
    refine ds_iload (k := 4) (p := 113) (by decide +kernel) rfl rfl ?_
    refine ds_iconst (n := 4) (p := 114) (by decide +kernel) rfl rfl ?_
    refine ds_irem (p := 115) (c := Int32.ofInt (x4 % 4)) (by decide +kernel) rfl (gc_nz rfl (x := x4) ⟨z7.1, z7.2, by decide, by decide⟩) (ga_rem rfl rfl ⟨z7.1, z7.2, by decide, by decide⟩) ?_
    refine ds_iload (k := 5) (p := 117) (by decide +kernel) rfl rfl ?_
    obtain ⟨z12, h⟩ := fx_gd h
    obtain ⟨z13, h⟩ := fx_gd h
    obtain ⟨t14, w15, h⟩ := fx_bd h
    refine ds_iastore (p := 118) (by decide +kernel) rfl z12 z13 ?_
    rw [Option.some.inj w15]
    refine ds_iinc (k := 4) (n := 1) (p := 121) (M := 7) (y := Int32.ofInt (x4 + 1)) (al' := [some (.ref 0), some (.ref x1), some (.int (Int32.ofInt x2)), some (.int (Int32.ofInt x3)), some (.int (Int32.ofInt (x4 + 1))), some (.int (Int32.ofInt x5)), o6]) (by decide +kernel) rfl rfl mx_242 rfl rfl (ga_add rfl rfl) rfl ?_
    refine ds_goto (off := -118) (p := 3) (by decide +kernel) (by decide +kernel) ?_
    exact hk_3 _ _ _ _ _ _ _ _ _ h
  · rw [if_neg c3] at h
    refine ds_icmp_eq_f (off := 5) (t := 102) (p := 100) (by decide +kernel) (by decide +kernel) rfl (fun q => c3 ((gc_eq rfl rfl z1 z2).mp q)) ?_
    refine ds_iconst (n := 0) (p := 101) (by decide +kernel) rfl rfl ?_
    have h := Option.some.inj h
    subst h
    exact ds_iret (by decide +kernel) rt_242 (by decide +kernel)
def dm_242_51 (L : Nat) (xs : Nat → Int32) (k_3 : Nat → Int → Int → Int → gx_S → dS → Option (Int × DS)) (x1 : Nat) (x2 : Int) (x3 : Int) (x4 : Int) (s0 : Int) (s : gx_S) (δ : dS) : Option (Int × DS) :=
  if dO δ x1 10 then (
  (δ.P x1 8).bind fun v2 =>
  if 0 ≤ x4 ∧ x4 ≤ 2147483647 then (
  if dA δ 6 v2 then (
  if dI δ v2 (x4 / 4) then (
  (δ.P v2 (((x4 / 4)).toNat)).bind fun v7 =>
  if dA δ 0 v7 then (
  if dI δ v7 (x4 % 4) then (
  (gm_89 (x4 / 4) (x4 % 4) s0 s).bind fun q11 =>
  if (-2147483648 ≤ (δ.I v7 (((x4 % 4)).toNat)) ∧ (δ.I v7 (((x4 % 4)).toNat)) ≤ 2147483647) then (
  if (-2147483648 ≤ s0 ∧ s0 ≤ 2147483647) then (
  if ¬ (δ.I v7 (((x4 % 4)).toNat)) = s0 then (
    dm_242_97 L xs k_3 x1 x2 x3 x4 s0 q11.1 (δ.I v7 (((x4 % 4)).toNat)) q11.2 δ) else (
    dm_242_97 L xs k_3 x1 x2 x3 x4 s0 q11.1 (-2) q11.2 δ)) else none) else none) else none) else none) else none) else none) else none) else none
theorem de_242_51 {z : iv_Z} {L : Nat} {xs : Nat → Int32} (hz : dZ z L xs) {d : Nat} (hd : 4 ≤ d) {k_3 : Nat → Int → Int → Int → gx_S → dS → Option (Int × DS)} (hk_3 : ∀ (x1 : Nat) (x2 : Int) (x3 : Int) (x4 : Int) (o5 : Option Value) (o6 : Option Value) (s : gx_S) (δ : dS) (q : Int × DS), k_3 x1 x2 x3 x4 s δ = some q → dE z 242 d 3 [some (.ref 0), some (.ref x1), some (.int (Int32.ofInt x2)), some (.int (Int32.ofInt x3)), some (.int (Int32.ofInt x4)), o5, o6] [] (s, δ) (some (.int (Int32.ofInt q.1))) q.2) (x1 : Nat) (x2 : Int) (x3 : Int) (x4 : Int) (s0 : Int) (o5 : Option Value) (o6 : Option Value) (s : gx_S) (δ : dS) (q : Int × DS) (h : dm_242_51 L xs k_3  x1 x2 x3 x4 s0 s δ = some q) : dE z 242 d 51 [some (.ref 0), some (.ref x1), some (.int (Int32.ofInt x2)), some (.int (Int32.ofInt x3)), some (.int (Int32.ofInt x4)), o5, o6] [.int (Int32.ofInt s0)] (s, δ) (some (.int (Int32.ofInt q.1))) q.2 := by
  unfold dm_242_51 at h
  refine ds_istore (k := 5) (p := 53) (M := 7) (al' := [some (.ref 0), some (.ref x1), some (.int (Int32.ofInt x2)), some (.int (Int32.ofInt x3)), some (.int (Int32.ofInt x4)), some (.int (Int32.ofInt s0)), o6]) (by decide +kernel) rfl mx_242 rfl rfl ?_
  refine ds_aload_n (k := 1) (p := 54) (by decide +kernel) rfl rfl ?_
  obtain ⟨z1, h⟩ := fx_gd h
  obtain ⟨v2, w3, h⟩ := fx_bd h
  refine ds_gfr (idx := 75) (ci := 10) (j := 8) (p := 57) (by decide +kernel) rfl (by decide +kernel) z1 w3 ?_
  refine ds_iload (k := 4) (p := 59) (by decide +kernel) rfl rfl ?_
  refine ds_iconst (n := 4) (p := 60) (by decide +kernel) rfl rfl ?_
  obtain ⟨z4, h⟩ := fx_gd h
  refine ds_idiv (p := 61) (c := Int32.ofInt (x4 / 4)) (by decide +kernel) rfl (gc_nz rfl (x := x4) ⟨z4.1, z4.2, by decide, by decide⟩) (ga_div rfl rfl ⟨z4.1, z4.2, by decide, by decide⟩) ?_
  obtain ⟨z5, h⟩ := fx_gd h
  obtain ⟨z6, h⟩ := fx_gd h
  obtain ⟨v7, w8, h⟩ := fx_bd h
  refine ds_aaload (t := 6) (p := 62) (by decide +kernel) rfl (by decide +kernel) z5 z6 w8 ?_
  refine ds_iload (k := 4) (p := 64) (by decide +kernel) rfl rfl ?_
  refine ds_iconst (n := 4) (p := 65) (by decide +kernel) rfl rfl ?_
  refine ds_irem (p := 66) (c := Int32.ofInt (x4 % 4)) (by decide +kernel) rfl (gc_nz rfl (x := x4) ⟨z4.1, z4.2, by decide, by decide⟩) (ga_rem rfl rfl ⟨z4.1, z4.2, by decide, by decide⟩) ?_
  obtain ⟨z9, h⟩ := fx_gd h
  obtain ⟨z10, h⟩ := fx_gd h
  refine ds_iaload (p := 67) (by decide +kernel) rfl z9 z10 ?_
  refine ds_istore (k := 6) (p := 69) (M := 7) (al' := [some (.ref 0), some (.ref x1), some (.int (Int32.ofInt x2)), some (.int (Int32.ofInt x3)), some (.int (Int32.ofInt x4)), some (.int (Int32.ofInt s0)), some (.int (Int32.ofInt (δ.I v7 (((x4 % 4)).toNat))))]) (by decide +kernel) rfl mx_242 rfl rfl ?_
  refine ds_aload_n (k := 0) (p := 70) (by decide +kernel) rfl rfl ?_
  refine ds_iload (k := 4) (p := 72) (by decide +kernel) rfl rfl ?_
  refine ds_iconst (n := 4) (p := 73) (by decide +kernel) rfl rfl ?_
  refine ds_idiv (p := 74) (c := Int32.ofInt (x4 / 4)) (by decide +kernel) rfl (gc_nz rfl (x := x4) ⟨z4.1, z4.2, by decide, by decide⟩) (ga_div rfl rfl ⟨z4.1, z4.2, by decide, by decide⟩) ?_
  refine ds_iload (k := 4) (p := 76) (by decide +kernel) rfl rfl ?_
  refine ds_iconst (n := 4) (p := 77) (by decide +kernel) rfl rfl ?_
  refine ds_irem (p := 78) (c := Int32.ofInt (x4 % 4)) (by decide +kernel) rfl (gc_nz rfl (x := x4) ⟨z4.1, z4.2, by decide, by decide⟩) (ga_rem rfl rfl ⟨z4.1, z4.2, by decide, by decide⟩) ?_
  refine ds_iload (k := 5) (p := 80) (by decide +kernel) rfl rfl ?_
  obtain ⟨q11, w12, h⟩ := fx_bd h
  refine ds_callV (idx := 96) (mj := 89) (ci := 9) (na := 3) (mx := 9) (p := 83) (args := [.ref 0, .int (Int32.ofInt (x4 / 4)), .int (Int32.ofInt (x4 % 4)), .int (Int32.ofInt s0)]) (rest := []) (al2 := [some (.ref 0), some (.int (Int32.ofInt (x4 / 4))), some (.int (Int32.ofInt (x4 % 4))), some (.int (Int32.ofInt s0)), none, none, none, none, none]) (S2 := (q11.2, δ)) (by decide +kernel) rfl (by decide +kernel) (Or.inl ⟨_, rfl, Or.inr fo_0⟩) rfl rfl rfl rfl rfl rfl (by omega) (fun d' hd' => dx_cls (fe_89 (by omega) (gf_89 rfl rfl rfl rfl w12))) rfl ?_
  refine ds_iload (k := 6) (p := 85) (by decide +kernel) rfl rfl ?_
  refine ds_iload (k := 5) (p := 87) (by decide +kernel) rfl rfl ?_
  obtain ⟨z13, h⟩ := fx_gd h
  obtain ⟨z14, h⟩ := fx_gd h
  by_cases c15 : ¬ (δ.I v7 (((x4 % 4)).toNat)) = s0
  · rw [if_pos c15] at h
    refine ds_icmp_ne_t (off := 8) (t := 95) (by decide +kernel) (by decide +kernel) ((gc_ne rfl rfl z13 z14).mpr c15) ?_
    refine ds_iload (k := 6) (p := 97) (by decide +kernel) rfl rfl ?_
    exact de_242_97 hz hd hk_3 _ _ _ _ _ _ _ _ _ _ _ h
  · rw [if_neg c15] at h
    refine ds_icmp_ne_f (off := 8) (t := 95) (p := 90) (by decide +kernel) (by decide +kernel) rfl (fun q => c15 ((gc_ne rfl rfl z13 z14).mp q)) ?_
    refine ds_bipush (n := -2) (p := 92) (by decide +kernel) rfl dkb_m2 ?_
    refine ds_goto (off := 5) (p := 97) (by decide +kernel) (by decide +kernel) ?_
    exact de_242_97 hz hd hk_3 _ _ _ _ _ _ _ _ _ _ _ h
def dm_242_37 (L : Nat) (xs : Nat → Int32) (k_3 : Nat → Int → Int → Int → gx_S → dS → Option (Int × DS)) (x1 : Nat) (x2 : Int) (x3 : Int) (x4 : Int) (s0 : Int) (s1 : Int) (s : gx_S) (δ : dS) : Option (Int × DS) :=
  if 0 ≤ (Int32.ofInt s0 &&& Int32.ofInt s1).toInt then (
    dm_242_51 L xs k_3 x1 x2 x3 x4 ((Int32.ofInt s0 &&& Int32.ofInt s1).toInt) s δ) else (
    dm_242_51 L xs k_3 x1 x2 x3 x4 0 s δ)
theorem de_242_37 {z : iv_Z} {L : Nat} {xs : Nat → Int32} (hz : dZ z L xs) {d : Nat} (hd : 4 ≤ d) {k_3 : Nat → Int → Int → Int → gx_S → dS → Option (Int × DS)} (hk_3 : ∀ (x1 : Nat) (x2 : Int) (x3 : Int) (x4 : Int) (o5 : Option Value) (o6 : Option Value) (s : gx_S) (δ : dS) (q : Int × DS), k_3 x1 x2 x3 x4 s δ = some q → dE z 242 d 3 [some (.ref 0), some (.ref x1), some (.int (Int32.ofInt x2)), some (.int (Int32.ofInt x3)), some (.int (Int32.ofInt x4)), o5, o6] [] (s, δ) (some (.int (Int32.ofInt q.1))) q.2) (x1 : Nat) (x2 : Int) (x3 : Int) (x4 : Int) (s0 : Int) (s1 : Int) (o5 : Option Value) (o6 : Option Value) (s : gx_S) (δ : dS) (q : Int × DS) (h : dm_242_37 L xs k_3  x1 x2 x3 x4 s0 s1 s δ = some q) : dE z 242 d 37 [some (.ref 0), some (.ref x1), some (.int (Int32.ofInt x2)), some (.int (Int32.ofInt x3)), some (.int (Int32.ofInt x4)), o5, o6] [.int (Int32.ofInt s1), .int (Int32.ofInt s0)] (s, δ) (some (.int (Int32.ofInt q.1))) q.2 := by
  unfold dm_242_37 at h
  refine ds_iand (p := 38) (c := Int32.ofInt (Int32.ofInt s0 &&& Int32.ofInt s1).toInt) (by decide +kernel) rfl (Int32.ofInt_toInt _).symm ?_
  refine ds_istore (k := 5) (p := 40) (M := 7) (al' := [some (.ref 0), some (.ref x1), some (.int (Int32.ofInt x2)), some (.int (Int32.ofInt x3)), some (.int (Int32.ofInt x4)), some (.int (Int32.ofInt ((Int32.ofInt s0 &&& Int32.ofInt s1).toInt))), o6]) (by decide +kernel) rfl mx_242 rfl rfl ?_
  refine ds_iload (k := 5) (p := 42) (by decide +kernel) rfl rfl ?_
  by_cases c1 : 0 ≤ (Int32.ofInt s0 &&& Int32.ofInt s1).toInt
  · rw [if_pos c1] at h
    refine ds_if_ge_t (off := 7) (t := 49) (by decide +kernel) (by decide +kernel) ((gc_le rfl rfl (by decide) (gs_r _)).mpr c1) ?_
    refine ds_iload (k := 5) (p := 51) (by decide +kernel) rfl rfl ?_
    exact de_242_51 hz hd hk_3 _ _ _ _ _ _ _ _ _ _ h
  · rw [if_neg c1] at h
    refine ds_if_ge_f (off := 7) (t := 49) (p := 45) (by decide +kernel) (by decide +kernel) rfl (fun q => c1 ((gc_le rfl rfl (by decide) (gs_r _)).mp q)) ?_
    refine ds_iconst (n := 0) (p := 46) (by decide +kernel) rfl rfl ?_
    refine ds_goto (off := 5) (p := 51) (by decide +kernel) (by decide +kernel) ?_
    exact de_242_51 hz hd hk_3 _ _ _ _ _ _ _ _ _ _ h
def dm_242_3 (L : Nat) (xs : Nat → Int32) : Nat → Nat → Int → Int → Int → gx_S → dS → Option (Int × DS)
  | 0, _, _, _, _, _, _ => none
  | n + 1, x1, x2, x3, x4, s, δ =>
    if (-2147483648 ≤ x4 ∧ x4 ≤ 2147483647) then (
    if 12 ≤ x4 then (
      if dO δ x1 10 then (
      (some (δ.w x1 2 ((Int32.ofInt x2 &&& Int32.ofInt 1).toInt))).bind fun t4 =>
      if dO t4 x1 10 then (
      (some (t4.w x1 3 ((Int32.ofInt ((Int32.ofInt x2 >>> (Int32.ofInt 1 &&& 31)).toInt) &&& Int32.ofInt 1).toInt))).bind fun t7 =>
      if dO t7 x1 10 then (
      (gm_90 0 (t7.I x1 2) s).bind fun q10 =>
      if (-2147483648 ≤ (t7.I x1 2) ∧ (t7.I x1 2) ≤ 2147483647) then (
      if ¬ (t7.I x1 2) = 0 then (
        dm_242_162 L xs x1 x3 q10.1 0 q10.2 t7) else (
        dm_242_162 L xs x1 x3 q10.1 (-2) q10.2 t7)) else none) else none) else none) else none) else (
      if 0 ≤ (Int32.ofInt ((Int32.ofInt x2 >>> (Int32.ofInt x4 &&& 31)).toInt) ^^^ Int32.ofInt ((Int32.ofInt x3 >>> (Int32.ofInt (2 * x4) &&& 31)).toInt)).toInt ∧ (Int32.ofInt ((Int32.ofInt x2 >>> (Int32.ofInt x4 &&& 31)).toInt) ^^^ Int32.ofInt ((Int32.ofInt x3 >>> (Int32.ofInt (2 * x4) &&& 31)).toInt)).toInt ≤ 2147483647 then (
      if 0 ≤ x4 ∧ x4 ≤ 2147483647 then (
      if (-2147483648 ≤ (x4 % 5) ∧ (x4 % 5) ≤ 2147483647) then (
      if ¬ (x4 % 5) = 0 then (
        dm_242_37 L xs (dm_242_3 L xs n) x1 x2 x3 x4 ((Int32.ofInt ((Int32.ofInt x2 >>> (Int32.ofInt x4 &&& 31)).toInt) ^^^ Int32.ofInt ((Int32.ofInt x3 >>> (Int32.ofInt (2 * x4) &&& 31)).toInt)).toInt % 10) 15 s δ) else (
        dm_242_37 L xs (dm_242_3 L xs n) x1 x2 x3 x4 ((Int32.ofInt ((Int32.ofInt x2 >>> (Int32.ofInt x4 &&& 31)).toInt) ^^^ Int32.ofInt ((Int32.ofInt x3 >>> (Int32.ofInt (2 * x4) &&& 31)).toInt)).toInt % 10) 0 s δ)) else none) else none) else none)) else none
theorem de_242_3 {z : iv_Z} {L : Nat} {xs : Nat → Int32} (hz : dZ z L xs) {d : Nat} (hd : 4 ≤ d) : ∀ (n : Nat) (x1 : Nat) (x2 : Int) (x3 : Int) (x4 : Int) (o5 : Option Value) (o6 : Option Value) (s : gx_S) (δ : dS) (q : Int × DS), dm_242_3 L xs n x1 x2 x3 x4 s δ = some q → dE z 242 d 3 [some (.ref 0), some (.ref x1), some (.int (Int32.ofInt x2)), some (.int (Int32.ofInt x3)), some (.int (Int32.ofInt x4)), o5, o6] [] (s, δ) (some (.int (Int32.ofInt q.1))) q.2 := by
  intro n
  induction n with
  | zero =>
    intro x1 x2 x3 x4 o5 o6 s δ q h
    rw [dm_242_3] at h
    exact fx_no h
  | succ n ih =>
    intro x1 x2 x3 x4 o5 o6 s δ q h
    rw [dm_242_3] at h
    refine ds_iload (k := 4) (p := 5) (by decide +kernel) rfl rfl ?_
    refine ds_bipush (n := 12) (p := 7) (by decide +kernel) rfl dkb_12 ?_
    obtain ⟨z1, h⟩ := fx_gd h
    by_cases c2 : 12 ≤ x4
    · rw [if_pos c2] at h
      refine ds_icmp_ge_t (off := 117) (t := 124) (by decide +kernel) (by decide +kernel) ((gc_le rfl rfl (by decide) z1).mpr c2) ?_
      refine ds_aload_n (k := 1) (p := 125) (by decide +kernel) rfl rfl ?_
      refine ds_iload_n (k := 2) (p := 126) (by decide +kernel) rfl rfl ?_
      refine ds_iconst (n := 1) (p := 127) (by decide +kernel) rfl rfl ?_
      refine ds_iand (p := 128) (c := Int32.ofInt (Int32.ofInt x2 &&& Int32.ofInt 1).toInt) (by decide +kernel) rfl (Int32.ofInt_toInt _).symm ?_
      obtain ⟨z3, h⟩ := fx_gd h
      obtain ⟨t4, w5, h⟩ := fx_bd h
      refine ds_pfi (idx := 100) (ci := 10) (j := 2) (p := 131) (by decide +kernel) rfl (by decide +kernel) (by decide +kernel) z3 (fx_oki _ (by decide +kernel)) ?_
      rw [Option.some.inj w5]
      refine ds_aload_n (k := 1) (p := 132) (by decide +kernel) rfl rfl ?_
      refine ds_iload_n (k := 2) (p := 133) (by decide +kernel) rfl rfl ?_
      refine ds_iconst (n := 1) (p := 134) (by decide +kernel) rfl rfl ?_
      refine ds_ishr (p := 135) (c := Int32.ofInt (Int32.ofInt x2 >>> (Int32.ofInt 1 &&& 31)).toInt) (by decide +kernel) rfl (Int32.ofInt_toInt _).symm ?_
      refine ds_iconst (n := 1) (p := 136) (by decide +kernel) rfl rfl ?_
      refine ds_iand (p := 137) (c := Int32.ofInt (Int32.ofInt ((Int32.ofInt x2 >>> (Int32.ofInt 1 &&& 31)).toInt) &&& Int32.ofInt 1).toInt) (by decide +kernel) rfl (Int32.ofInt_toInt _).symm ?_
      obtain ⟨z6, h⟩ := fx_gd h
      obtain ⟨t7, w8, h⟩ := fx_bd h
      refine ds_pfi (idx := 103) (ci := 10) (j := 3) (p := 140) (by decide +kernel) rfl (by decide +kernel) (by decide +kernel) z6 (fx_oki _ (by decide +kernel)) ?_
      rw [Option.some.inj w8]
      refine ds_aload_n (k := 0) (p := 141) (by decide +kernel) rfl rfl ?_
      refine ds_iconst (n := 0) (p := 142) (by decide +kernel) rfl rfl ?_
      refine ds_aload_n (k := 1) (p := 143) (by decide +kernel) rfl rfl ?_
      obtain ⟨z9, h⟩ := fx_gd h
      refine ds_gfi (idx := 100) (ci := 10) (j := 2) (p := 146) (by decide +kernel) rfl (by decide +kernel) z9 ?_
      obtain ⟨q10, w11, h⟩ := fx_bd h
      refine ds_callV (idx := 106) (mj := 90) (ci := 9) (na := 2) (mx := 4) (p := 149) (args := [.ref 0, .int (Int32.ofInt 0), .int (Int32.ofInt (t7.I x1 2))]) (rest := []) (al2 := [some (.ref 0), some (.int (Int32.ofInt 0)), some (.int (Int32.ofInt (t7.I x1 2))), none]) (S2 := (q10.2, t7)) (by decide +kernel) rfl (by decide +kernel) (Or.inl ⟨_, rfl, Or.inr fo_0⟩) rfl rfl rfl rfl rfl rfl (by omega) (fun d' hd' => dx_cls (fe_90 (by omega) (gf_90 rfl rfl rfl w11))) rfl ?_
      refine ds_aload_n (k := 1) (p := 150) (by decide +kernel) rfl rfl ?_
      refine ds_gfi (idx := 100) (ci := 10) (j := 2) (p := 153) (by decide +kernel) rfl (by decide +kernel) z9 ?_
      obtain ⟨z12, h⟩ := fx_gd h
      by_cases c13 : ¬ (t7.I x1 2) = 0
      · rw [if_pos c13] at h
        refine ds_if_ne_t (off := 8) (t := 161) (by decide +kernel) (by decide +kernel) ((gc_ne rfl rfl z12 (by decide)).mpr c13) ?_
        refine ds_iconst (n := 0) (p := 162) (by decide +kernel) rfl rfl ?_
        exact de_242_162 hz hd _ _ _ _ _ _ _ _ _ _ _ h
      · rw [if_neg c13] at h
        refine ds_if_ne_f (off := 8) (t := 161) (p := 156) (by decide +kernel) (by decide +kernel) rfl (fun q => c13 ((gc_ne rfl rfl z12 (by decide)).mp q)) ?_
        refine ds_bipush (n := -2) (p := 158) (by decide +kernel) rfl dkb_m2 ?_
        refine ds_goto (off := 4) (p := 162) (by decide +kernel) (by decide +kernel) ?_
        exact de_242_162 hz hd _ _ _ _ _ _ _ _ _ _ _ h
    · rw [if_neg c2] at h
      refine ds_icmp_ge_f (off := 117) (t := 124) (p := 10) (by decide +kernel) (by decide +kernel) rfl (fun q => c2 ((gc_le rfl rfl (by decide) z1).mp q)) ?_
      refine ds_iload_n (k := 2) (p := 11) (by decide +kernel) rfl rfl ?_
      refine ds_iload (k := 4) (p := 13) (by decide +kernel) rfl rfl ?_
      refine ds_ishr (p := 14) (c := Int32.ofInt (Int32.ofInt x2 >>> (Int32.ofInt x4 &&& 31)).toInt) (by decide +kernel) rfl (Int32.ofInt_toInt _).symm ?_
      refine ds_iload_n (k := 3) (p := 15) (by decide +kernel) rfl rfl ?_
      refine ds_iconst (n := 2) (p := 16) (by decide +kernel) rfl rfl ?_
      refine ds_iload (k := 4) (p := 18) (by decide +kernel) rfl rfl ?_
      refine ds_imul (p := 19) (c := Int32.ofInt (2 * x4)) (by decide +kernel) rfl (ga_mul rfl rfl) ?_
      refine ds_ishr (p := 20) (c := Int32.ofInt (Int32.ofInt x3 >>> (Int32.ofInt (2 * x4) &&& 31)).toInt) (by decide +kernel) rfl (Int32.ofInt_toInt _).symm ?_
      refine ds_ixor (p := 21) (c := Int32.ofInt (Int32.ofInt ((Int32.ofInt x2 >>> (Int32.ofInt x4 &&& 31)).toInt) ^^^ Int32.ofInt ((Int32.ofInt x3 >>> (Int32.ofInt (2 * x4) &&& 31)).toInt)).toInt) (by decide +kernel) rfl (Int32.ofInt_toInt _).symm ?_
      refine ds_bipush (n := 10) (p := 23) (by decide +kernel) rfl dkb_10 ?_
      obtain ⟨z14, h⟩ := fx_gd h
      refine ds_irem (p := 24) (c := Int32.ofInt ((Int32.ofInt ((Int32.ofInt x2 >>> (Int32.ofInt x4 &&& 31)).toInt) ^^^ Int32.ofInt ((Int32.ofInt x3 >>> (Int32.ofInt (2 * x4) &&& 31)).toInt)).toInt % 10)) (by decide +kernel) rfl (gc_nz rfl (x := ((Int32.ofInt ((Int32.ofInt x2 >>> (Int32.ofInt x4 &&& 31)).toInt) ^^^ Int32.ofInt ((Int32.ofInt x3 >>> (Int32.ofInt (2 * x4) &&& 31)).toInt)).toInt)) ⟨z14.1, z14.2, by decide, by decide⟩) (ga_rem rfl rfl ⟨z14.1, z14.2, by decide, by decide⟩) ?_
      refine ds_iload (k := 4) (p := 26) (by decide +kernel) rfl rfl ?_
      refine ds_iconst (n := 5) (p := 27) (by decide +kernel) rfl rfl ?_
      obtain ⟨z15, h⟩ := fx_gd h
      refine ds_irem (p := 28) (c := Int32.ofInt (x4 % 5)) (by decide +kernel) rfl (gc_nz rfl (x := x4) ⟨z15.1, z15.2, by decide, by decide⟩) (ga_rem rfl rfl ⟨z15.1, z15.2, by decide, by decide⟩) ?_
      obtain ⟨z16, h⟩ := fx_gd h
      by_cases c17 : ¬ (x4 % 5) = 0
      · rw [if_pos c17] at h
        refine ds_if_ne_t (off := 7) (t := 35) (by decide +kernel) (by decide +kernel) ((gc_ne rfl rfl z16 (by decide)).mpr c17) ?_
        refine ds_bipush (n := 15) (p := 37) (by decide +kernel) rfl dkb_15 ?_
        exact de_242_37 hz hd ih _ _ _ _ _ _ _ _ _ _ _ h
      · rw [if_neg c17] at h
        refine ds_if_ne_f (off := 7) (t := 35) (p := 31) (by decide +kernel) (by decide +kernel) rfl (fun q => c17 ((gc_ne rfl rfl z16 (by decide)).mp q)) ?_
        refine ds_iconst (n := 0) (p := 32) (by decide +kernel) rfl rfl ?_
        refine ds_goto (off := 5) (p := 37) (by decide +kernel) (by decide +kernel) ?_
        exact de_242_37 hz hd ih _ _ _ _ _ _ _ _ _ _ _ h
def dm_242 (L : Nat) (xs : Nat → Int32) (x1 : Nat) (x2 : Int) (x3 : Int) (s : gx_S) (δ : dS) : Option (Int × DS) :=
  dm_242_3 L xs 100000 x1 x2 x3 0 s δ
theorem de_242 {z : iv_Z} {L : Nat} {xs : Nat → Int32} (hz : dZ z L xs) {d : Nat} (hd : 4 ≤ d) {x1 : Nat} {x2 : Int} {x3 : Int} {s : gx_S} {δ : dS} {q : Int × DS} (h : dm_242 L xs x1 x2 x3 s δ = some q) : dE z 242 d 0 [some (.ref 0), some (.ref x1), some (.int (Int32.ofInt x2)), some (.int (Int32.ofInt x3)), none, none, none] [] (s, δ) (some (.int (Int32.ofInt q.1))) q.2 := by
  unfold dm_242 at h
  refine ds_iconst (n := 0) (p := 1) (by decide +kernel) rfl rfl ?_
  refine ds_istore (k := 4) (p := 3) (M := 7) (al' := [some (.ref 0), some (.ref x1), some (.int (Int32.ofInt x2)), some (.int (Int32.ofInt x3)), some (.int (Int32.ofInt 0)), none, none]) (by decide +kernel) rfl mx_242 rfl rfl ?_
  exact de_242_3 hz hd 100000 _ _ _ _ _ _ _ _ _ h
/-! ZoneSharesLaw.rests(J[I)[J d -/
theorem mx_245 : iv_mx 245 = 11 := by decide +kernel
def dm_245_167 (L : Nat) (xs : Nat → Int32) (k_121 : Int → Nat → Int → Nat → Int → Nat → Int → Int → gx_S → dS → Option (Nat × DS)) (x0 : Int) (x2 : Nat) (x3 : Int) (x5 : Nat) (x6 : Int) (x8 : Nat) (x9 : Int) (x10 : Int) (s : gx_S) (δ : dS) : Option (Nat × DS) :=
  k_121 x0 x2 x3 x5 x6 x8 x9 (x10 + 1) s δ
theorem de_245_167 {z : iv_Z} {L : Nat} {xs : Nat → Int32} (hz : dZ z L xs) {d : Nat} (hd : 0 ≤ d) {k_121 : Int → Nat → Int → Nat → Int → Nat → Int → Int → gx_S → dS → Option (Nat × DS)} (hk_121 : ∀ (x0 : Int) (x2 : Nat) (x3 : Int) (x5 : Nat) (x6 : Int) (x8 : Nat) (x9 : Int) (x10 : Int) (s : gx_S) (δ : dS) (q : Nat × DS), k_121 x0 x2 x3 x5 x6 x8 x9 x10 s δ = some q → dE z 245 d 121 [some (.long (Int64.ofInt x0)), none, some (.ref x2), some (.long (Int64.ofInt x3)), none, some (.ref x5), some (.long (Int64.ofInt x6)), none, some (.ref x8), some (.int (Int32.ofInt x9)), some (.int (Int32.ofInt x10))] [] (s, δ) (some (.ref q.1)) q.2) (x0 : Int) (x2 : Nat) (x3 : Int) (x5 : Nat) (x6 : Int) (x8 : Nat) (x9 : Int) (x10 : Int) (s : gx_S) (δ : dS) (q : Nat × DS) (h : dm_245_167 L xs k_121  x0 x2 x3 x5 x6 x8 x9 x10 s δ = some q) : dE z 245 d 167 [some (.long (Int64.ofInt x0)), none, some (.ref x2), some (.long (Int64.ofInt x3)), none, some (.ref x5), some (.long (Int64.ofInt x6)), none, some (.ref x8), some (.int (Int32.ofInt x9)), some (.int (Int32.ofInt x10))] [] (s, δ) (some (.ref q.1)) q.2 := by
  unfold dm_245_167 at h
  refine ds_iinc (k := 10) (n := 1) (p := 170) (M := 11) (y := Int32.ofInt (x10 + 1)) (al' := [some (.long (Int64.ofInt x0)), none, some (.ref x2), some (.long (Int64.ofInt x3)), none, some (.ref x5), some (.long (Int64.ofInt x6)), none, some (.ref x8), some (.int (Int32.ofInt x9)), some (.int (Int32.ofInt (x10 + 1)))]) (by decide +kernel) rfl rfl mx_245 rfl rfl (ga_add rfl rfl) rfl ?_
  refine ds_goto (off := -49) (p := 121) (by decide +kernel) (by decide +kernel) ?_
  exact hk_121 _ _ _ _ _ _ _ _ _ _ _ h
def dm_245_163 (L : Nat) (xs : Nat → Int32) (k_121 : Int → Nat → Int → Nat → Int → Nat → Int → Int → gx_S → dS → Option (Nat × DS)) (x0 : Int) (x2 : Nat) (x3 : Int) (x5 : Nat) (x6 : Int) (x8 : Nat) (x10 : Int) (s : gx_S) (δ : dS) : Option (Nat × DS) :=
  dm_245_167 L xs k_121 x0 x2 x3 x5 x6 x8 x10 x10 s δ
theorem de_245_163 {z : iv_Z} {L : Nat} {xs : Nat → Int32} (hz : dZ z L xs) {d : Nat} (hd : 0 ≤ d) {k_121 : Int → Nat → Int → Nat → Int → Nat → Int → Int → gx_S → dS → Option (Nat × DS)} (hk_121 : ∀ (x0 : Int) (x2 : Nat) (x3 : Int) (x5 : Nat) (x6 : Int) (x8 : Nat) (x9 : Int) (x10 : Int) (s : gx_S) (δ : dS) (q : Nat × DS), k_121 x0 x2 x3 x5 x6 x8 x9 x10 s δ = some q → dE z 245 d 121 [some (.long (Int64.ofInt x0)), none, some (.ref x2), some (.long (Int64.ofInt x3)), none, some (.ref x5), some (.long (Int64.ofInt x6)), none, some (.ref x8), some (.int (Int32.ofInt x9)), some (.int (Int32.ofInt x10))] [] (s, δ) (some (.ref q.1)) q.2) (x0 : Int) (x2 : Nat) (x3 : Int) (x5 : Nat) (x6 : Int) (x8 : Nat) (x10 : Int) (o9 : Option Value) (s : gx_S) (δ : dS) (q : Nat × DS) (h : dm_245_163 L xs k_121  x0 x2 x3 x5 x6 x8 x10 s δ = some q) : dE z 245 d 163 [some (.long (Int64.ofInt x0)), none, some (.ref x2), some (.long (Int64.ofInt x3)), none, some (.ref x5), some (.long (Int64.ofInt x6)), none, some (.ref x8), o9, some (.int (Int32.ofInt x10))] [] (s, δ) (some (.ref q.1)) q.2 := by
  unfold dm_245_163 at h
  refine ds_iload (k := 10) (p := 165) (by decide +kernel) rfl rfl ?_
  refine ds_istore (k := 9) (p := 167) (M := 11) (al' := [some (.long (Int64.ofInt x0)), none, some (.ref x2), some (.long (Int64.ofInt x3)), none, some (.ref x5), some (.long (Int64.ofInt x6)), none, some (.ref x8), some (.int (Int32.ofInt x10)), some (.int (Int32.ofInt x10))]) (by decide +kernel) rfl mx_245 rfl rfl ?_
  exact de_245_167 hz hd hk_121 _ _ _ _ _ _ _ _ _ _ _ h
def dm_245_121 (L : Nat) (xs : Nat → Int32) (k_103 : Int → Nat → Int → Nat → Int → Nat → gx_S → dS → Option (Nat × DS)) : Nat → Int → Nat → Int → Nat → Int → Nat → Int → Int → gx_S → dS → Option (Nat × DS)
  | 0, _, _, _, _, _, _, _, _, _, _ => none
  | n + 1, x0, x2, x3, x5, x6, x8, x9, x10, s, δ =>
    if dA δ 0 x2 then (
    if (-2147483648 ≤ x10 ∧ x10 ≤ 2147483647) then (
    if (-2147483648 ≤ ((δ.sh x2).2 : Int) ∧ ((δ.sh x2).2 : Int) ≤ 2147483647) then (
    if ((δ.sh x2).2 : Int) ≤ x10 then (
      if dA δ 2 x8 then (
      if dI δ x8 x9 then (
      (some (δ.w x8 ((x9).toNat) (gn2 1))).bind fun t7 =>
      if dA t7 1 x5 then (
      if dI t7 x5 x9 then (
      (some (t7.w x5 ((x9).toNat) ((t7.I x5 ((x9).toNat)) + 1))).bind fun t11 =>
      k_103 x0 x2 x3 x5 x6 x8 s t11) else none) else none) else none) else none) else (
      if dA δ 2 x8 then (
      if dI δ x8 x10 then (
      if (-2147483648 ≤ (δ.I x8 ((x10).toNat)) ∧ (δ.I x8 ((x10).toNat)) ≤ 2147483647) then (
      if ¬ (δ.I x8 ((x10).toNat)) = 0 then (
        dm_245_167 L xs (dm_245_121 L xs k_103 n) x0 x2 x3 x5 x6 x8 x9 x10 s δ) else (
        if (-2147483648 ≤ x9 ∧ x9 ≤ 2147483647) then (
        if x9 < 0 then (
          dm_245_163 L xs (dm_245_121 L xs k_103 n) x0 x2 x3 x5 x6 x8 x10 s δ) else (
          if dI δ x2 x10 then (
          if (-2147483648 ≤ (δ.I x2 ((x10).toNat)) ∧ (δ.I x2 ((x10).toNat)) ≤ 2147483647) then (
          if 0 ≤ (x0 * (δ.I x2 ((x10).toNat))) ∧ (x0 * (δ.I x2 ((x10).toNat))) ≤ 9223372036854775807 ∧ 0 < x3 ∧ x3 ≤ 9223372036854775807 then (
          if dI δ x2 x9 then (
          if (-2147483648 ≤ (δ.I x2 ((x9).toNat)) ∧ (δ.I x2 ((x9).toNat)) ≤ 2147483647) then (
          if 0 ≤ (x0 * (δ.I x2 ((x9).toNat))) ∧ (x0 * (δ.I x2 ((x9).toNat))) ≤ 9223372036854775807 ∧ 0 < x3 ∧ x3 ≤ 9223372036854775807 then (
          if (-9223372036854775808 ≤ ((x0 * (δ.I x2 ((x10).toNat))) % x3) ∧ ((x0 * (δ.I x2 ((x10).toNat))) % x3) ≤ 9223372036854775807) then (
          if (-9223372036854775808 ≤ ((x0 * (δ.I x2 ((x9).toNat))) % x3) ∧ ((x0 * (δ.I x2 ((x9).toNat))) % x3) ≤ 9223372036854775807) then (
          if ((x0 * (δ.I x2 ((x10).toNat))) % x3) ≤ ((x0 * (δ.I x2 ((x9).toNat))) % x3) then (
            dm_245_167 L xs (dm_245_121 L xs k_103 n) x0 x2 x3 x5 x6 x8 x9 x10 s δ) else (
            dm_245_163 L xs (dm_245_121 L xs k_103 n) x0 x2 x3 x5 x6 x8 x10 s δ)) else none) else none) else none) else none) else none) else none) else none) else none)) else none)) else none) else none) else none)) else none) else none) else none
theorem de_245_121 {z : iv_Z} {L : Nat} {xs : Nat → Int32} (hz : dZ z L xs) {d : Nat} (hd : 0 ≤ d) {k_103 : Int → Nat → Int → Nat → Int → Nat → gx_S → dS → Option (Nat × DS)} (hk_103 : ∀ (x0 : Int) (x2 : Nat) (x3 : Int) (x5 : Nat) (x6 : Int) (x8 : Nat) (o9 : Option Value) (o10 : Option Value) (s : gx_S) (δ : dS) (q : Nat × DS), k_103 x0 x2 x3 x5 x6 x8 s δ = some q → dE z 245 d 103 [some (.long (Int64.ofInt x0)), none, some (.ref x2), some (.long (Int64.ofInt x3)), none, some (.ref x5), some (.long (Int64.ofInt x6)), none, some (.ref x8), o9, o10] [] (s, δ) (some (.ref q.1)) q.2) : ∀ (n : Nat) (x0 : Int) (x2 : Nat) (x3 : Int) (x5 : Nat) (x6 : Int) (x8 : Nat) (x9 : Int) (x10 : Int) (s : gx_S) (δ : dS) (q : Nat × DS), dm_245_121 L xs k_103 n x0 x2 x3 x5 x6 x8 x9 x10 s δ = some q → dE z 245 d 121 [some (.long (Int64.ofInt x0)), none, some (.ref x2), some (.long (Int64.ofInt x3)), none, some (.ref x5), some (.long (Int64.ofInt x6)), none, some (.ref x8), some (.int (Int32.ofInt x9)), some (.int (Int32.ofInt x10))] [] (s, δ) (some (.ref q.1)) q.2 := by
  intro n
  induction n with
  | zero =>
    intro x0 x2 x3 x5 x6 x8 x9 x10 s δ q h
    rw [dm_245_121] at h
    exact fx_no h
  | succ n ih =>
    intro x0 x2 x3 x5 x6 x8 x9 x10 s δ q h
    rw [dm_245_121] at h
    refine ds_iload (k := 10) (p := 123) (by decide +kernel) rfl rfl ?_
    refine ds_aload_n (k := 2) (p := 124) (by decide +kernel) rfl rfl ?_
    obtain ⟨z1, h⟩ := fx_gd h
    refine ds_alen (t := 0) (p := 125) (by decide +kernel) rfl z1 (by decide) ?_
    obtain ⟨z2, h⟩ := fx_gd h
    obtain ⟨z3, h⟩ := fx_gd h
    by_cases c4 : ((δ.sh x2).2 : Int) ≤ x10
    · rw [if_pos c4] at h
      refine ds_icmp_ge_t (off := 48) (t := 173) (by decide +kernel) (by decide +kernel) ((gc_le rfl rfl z3 z2).mpr c4) ?_
      refine ds_aload (k := 8) (p := 175) (by decide +kernel) rfl rfl ?_
      refine ds_iload (k := 9) (p := 177) (by decide +kernel) rfl rfl ?_
      refine ds_iconst (n := 1) (p := 178) (by decide +kernel) rfl rfl ?_
      obtain ⟨z5, h⟩ := fx_gd h
      obtain ⟨z6, h⟩ := fx_gd h
      obtain ⟨t7, w8, h⟩ := fx_bd h
      refine ds_bastore2 (p := 179) (by decide +kernel) rfl z5 z6 ?_
      rw [Option.some.inj w8]
      refine ds_aload (k := 5) (p := 181) (by decide +kernel) rfl rfl ?_
      refine ds_iload (k := 9) (p := 183) (by decide +kernel) rfl rfl ?_
      refine ds_dup2 (p := 184) (by decide +kernel) rfl rfl rfl ?_
      obtain ⟨z9, h⟩ := fx_gd h
      obtain ⟨z10, h⟩ := fx_gd h
      refine ds_laload (p := 185) (by decide +kernel) rfl z9 z10 ?_
      refine ds_lconst (n := 1) (p := 186) (by decide +kernel) rfl dl_1 ?_
      refine ds_ladd (p := 187) (c := Int64.ofInt ((t7.I x5 ((x9).toNat)) + 1)) (by decide +kernel) rfl (gal_add rfl rfl) ?_
      obtain ⟨t11, w12, h⟩ := fx_bd h
      refine ds_lastore (p := 188) (by decide +kernel) rfl z9 z10 ?_
      rw [Option.some.inj w12]
      refine ds_goto (off := -85) (p := 103) (by decide +kernel) (by decide +kernel) ?_
      exact hk_103 _ _ _ _ _ _ _ _ _ _ _ h
    · rw [if_neg c4] at h
      refine ds_icmp_ge_f (off := 48) (t := 173) (p := 128) (by decide +kernel) (by decide +kernel) rfl (fun q => c4 ((gc_le rfl rfl z3 z2).mp q)) ?_
      refine ds_aload (k := 8) (p := 130) (by decide +kernel) rfl rfl ?_
      refine ds_iload (k := 10) (p := 132) (by decide +kernel) rfl rfl ?_
      obtain ⟨z13, h⟩ := fx_gd h
      obtain ⟨z14, h⟩ := fx_gd h
      refine ds_baload2 (p := 133) (by decide +kernel) rfl z13 z14 ?_
      obtain ⟨z15, h⟩ := fx_gd h
      by_cases c16 : ¬ (δ.I x8 ((x10).toNat)) = 0
      · rw [if_pos c16] at h
        refine ds_if_ne_t (off := 34) (t := 167) (by decide +kernel) (by decide +kernel) ((gc_ne rfl rfl z15 (by decide)).mpr c16) ?_
        exact de_245_167 hz hd ih _ _ _ _ _ _ _ _ _ _ _ h
      · rw [if_neg c16] at h
        refine ds_if_ne_f (off := 34) (t := 167) (p := 136) (by decide +kernel) (by decide +kernel) rfl (fun q => c16 ((gc_ne rfl rfl z15 (by decide)).mp q)) ?_
        refine ds_iload (k := 9) (p := 138) (by decide +kernel) rfl rfl ?_
        obtain ⟨z17, h⟩ := fx_gd h
        by_cases c18 : x9 < 0
        · rw [if_pos c18] at h
          refine ds_if_lt_t (off := 25) (t := 163) (by decide +kernel) (by decide +kernel) ((gc_lt rfl rfl z17 (by decide)).mpr c18) ?_
          exact de_245_163 hz hd ih _ _ _ _ _ _ _ _ _ _ _ h
        · rw [if_neg c18] at h
          refine ds_if_lt_f (off := 25) (t := 163) (p := 141) (by decide +kernel) (by decide +kernel) rfl (fun q => c18 ((gc_lt rfl rfl z17 (by decide)).mp q)) ?_
          refine ds_lload_n (k := 0) (p := 142) (by decide +kernel) rfl rfl ?_
          refine ds_aload_n (k := 2) (p := 143) (by decide +kernel) rfl rfl ?_
          refine ds_iload (k := 10) (p := 145) (by decide +kernel) rfl rfl ?_
          obtain ⟨z19, h⟩ := fx_gd h
          refine ds_iaload (p := 146) (by decide +kernel) rfl z1 z19 ?_
          obtain ⟨z20, h⟩ := fx_gd h
          refine ds_i2l (p := 147) (c := Int64.ofInt (δ.I x2 ((x10).toNat))) (by decide +kernel) rfl (ga_i2l rfl z20) ?_
          refine ds_lmul (p := 148) (c := Int64.ofInt (x0 * (δ.I x2 ((x10).toNat)))) (by decide +kernel) rfl (gal_mul rfl rfl) ?_
          refine ds_lload_n (k := 3) (p := 149) (by decide +kernel) rfl rfl ?_
          obtain ⟨z21, h⟩ := fx_gd h
          refine ds_lrem (p := 150) (c := Int64.ofInt ((x0 * (δ.I x2 ((x10).toNat))) % x3)) (by decide +kernel) rfl (gcl_nz rfl (x := (x0 * (δ.I x2 ((x10).toNat)))) z21) (gal_rem rfl rfl z21) ?_
          refine ds_lload_n (k := 0) (p := 151) (by decide +kernel) rfl rfl ?_
          refine ds_aload_n (k := 2) (p := 152) (by decide +kernel) rfl rfl ?_
          refine ds_iload (k := 9) (p := 154) (by decide +kernel) rfl rfl ?_
          obtain ⟨z22, h⟩ := fx_gd h
          refine ds_iaload (p := 155) (by decide +kernel) rfl z1 z22 ?_
          obtain ⟨z23, h⟩ := fx_gd h
          refine ds_i2l (p := 156) (c := Int64.ofInt (δ.I x2 ((x9).toNat))) (by decide +kernel) rfl (ga_i2l rfl z23) ?_
          refine ds_lmul (p := 157) (c := Int64.ofInt (x0 * (δ.I x2 ((x9).toNat)))) (by decide +kernel) rfl (gal_mul rfl rfl) ?_
          refine ds_lload_n (k := 3) (p := 158) (by decide +kernel) rfl rfl ?_
          obtain ⟨z24, h⟩ := fx_gd h
          refine ds_lrem (p := 159) (c := Int64.ofInt ((x0 * (δ.I x2 ((x9).toNat))) % x3)) (by decide +kernel) rfl (gcl_nz rfl (x := (x0 * (δ.I x2 ((x9).toNat)))) z24) (gal_rem rfl rfl z24) ?_
          obtain ⟨z25, h⟩ := fx_gd h
          obtain ⟨z26, h⟩ := fx_gd h
          by_cases c27 : ((x0 * (δ.I x2 ((x10).toNat))) % x3) ≤ ((x0 * (δ.I x2 ((x9).toNat))) % x3)
          · rw [if_pos c27] at h
            refine ds_lcmp_le_t (off := 7) (t := 167) (by decide +kernel) (by decide +kernel) (by decide +kernel) ((gcl_le rfl rfl z25 z26).mpr c27) ?_
            exact de_245_167 hz hd ih _ _ _ _ _ _ _ _ _ _ _ h
          · rw [if_neg c27] at h
            refine ds_lcmp_le_f (off := 7) (t := 167) (p := 163) (by decide +kernel) (by decide +kernel) (by decide +kernel) rfl (fun q => c27 ((gcl_le rfl rfl z25 z26).mp q)) ?_
            exact de_245_163 hz hd ih _ _ _ _ _ _ _ _ _ _ _ h
def dm_245_103 (L : Nat) (xs : Nat → Int32) : Nat → Int → Nat → Int → Nat → Int → Nat → gx_S → dS → Option (Nat × DS)
  | 0, _, _, _, _, _, _, _, _ => none
  | n + 1, x0, x2, x3, x5, x6, x8, s, δ =>
    if (-9223372036854775808 ≤ x6 ∧ x6 ≤ 9223372036854775807) then (
    if x6 ≤ 0 then (
      some (x5, s, δ)) else (
      dm_245_121 L xs (dm_245_103 L xs n) 100000 x0 x2 x3 x5 (x6 - 1) x8 (-1) 0 s δ)) else none
theorem de_245_103 {z : iv_Z} {L : Nat} {xs : Nat → Int32} (hz : dZ z L xs) {d : Nat} (hd : 0 ≤ d) : ∀ (n : Nat) (x0 : Int) (x2 : Nat) (x3 : Int) (x5 : Nat) (x6 : Int) (x8 : Nat) (o9 : Option Value) (o10 : Option Value) (s : gx_S) (δ : dS) (q : Nat × DS), dm_245_103 L xs n x0 x2 x3 x5 x6 x8 s δ = some q → dE z 245 d 103 [some (.long (Int64.ofInt x0)), none, some (.ref x2), some (.long (Int64.ofInt x3)), none, some (.ref x5), some (.long (Int64.ofInt x6)), none, some (.ref x8), o9, o10] [] (s, δ) (some (.ref q.1)) q.2 := by
  intro n
  induction n with
  | zero =>
    intro x0 x2 x3 x5 x6 x8 o9 o10 s δ q h
    rw [dm_245_103] at h
    exact fx_no h
  | succ n ih =>
    intro x0 x2 x3 x5 x6 x8 o9 o10 s δ q h
    rw [dm_245_103] at h
    refine ds_lload (k := 6) (p := 105) (by decide +kernel) rfl rfl ?_
    refine ds_dup2l (p := 106) (by decide +kernel) rfl rfl ?_
    refine ds_lconst (n := 1) (p := 107) (by decide +kernel) rfl dl_1 ?_
    refine ds_lsub (p := 108) (c := Int64.ofInt (x6 - 1)) (by decide +kernel) rfl (gal_sub rfl rfl) ?_
    refine ds_lstore (k := 6) (p := 110) (M := 11) (al' := [some (.long (Int64.ofInt x0)), none, some (.ref x2), some (.long (Int64.ofInt x3)), none, some (.ref x5), some (.long (Int64.ofInt (x6 - 1))), none, some (.ref x8), o9, o10]) (by decide +kernel) rfl mx_245 rfl rfl ?_
    refine ds_lconst (n := 0) (p := 111) (by decide +kernel) rfl dl_0 ?_
    obtain ⟨z1, h⟩ := fx_gd h
    by_cases c2 : x6 ≤ 0
    · rw [if_pos c2] at h
      refine ds_lcmp_le_t (off := 79) (t := 191) (by decide +kernel) (by decide +kernel) (by decide +kernel) ((gcl_le rfl rfl z1 (by decide)).mpr c2) ?_
      refine ds_aload (k := 5) (p := 193) (by decide +kernel) rfl rfl ?_
      have h := Option.some.inj h
      subst h
      exact ds_aret (by decide +kernel) (by decide +kernel)
    · rw [if_neg c2] at h
      refine ds_lcmp_le_f (off := 79) (t := 191) (p := 115) (by decide +kernel) (by decide +kernel) (by decide +kernel) rfl (fun q => c2 ((gcl_le rfl rfl z1 (by decide)).mp q)) ?_
      refine ds_iconst (n := -1) (p := 116) (by decide +kernel) rfl rfl ?_
      refine ds_istore (k := 9) (p := 118) (M := 11) (al' := [some (.long (Int64.ofInt x0)), none, some (.ref x2), some (.long (Int64.ofInt x3)), none, some (.ref x5), some (.long (Int64.ofInt (x6 - 1))), none, some (.ref x8), some (.int (Int32.ofInt (-1))), o10]) (by decide +kernel) rfl mx_245 rfl rfl ?_
      refine ds_iconst (n := 0) (p := 119) (by decide +kernel) rfl rfl ?_
      refine ds_istore (k := 10) (p := 121) (M := 11) (al' := [some (.long (Int64.ofInt x0)), none, some (.ref x2), some (.long (Int64.ofInt x3)), none, some (.ref x5), some (.long (Int64.ofInt (x6 - 1))), none, some (.ref x8), some (.int (Int32.ofInt (-1))), some (.int (Int32.ofInt 0))]) (by decide +kernel) rfl mx_245 rfl rfl ?_
      exact de_245_121 hz hd ih 100000 _ _ _ _ _ _ _ _ _ _ _ h
def dm_245_66 (L : Nat) (xs : Nat → Int32) : Nat → Int → Nat → Int → Nat → Int → Nat → Int → gx_S → dS → Option (Nat × DS)
  | 0, _, _, _, _, _, _, _, _, _ => none
  | n + 1, x0, x2, x3, x5, x6, x8, x9, s, δ =>
    if dA δ 0 x2 then (
    if (-2147483648 ≤ x9 ∧ x9 ≤ 2147483647) then (
    if (-2147483648 ≤ ((δ.sh x2).2 : Int) ∧ ((δ.sh x2).2 : Int) ≤ 2147483647) then (
    if ((δ.sh x2).2 : Int) ≤ x9 then (
      dm_245_103 L xs 100000 x0 x2 x3 x5 x6 x8 s δ) else (
      if dI δ x2 x9 then (
      if (-2147483648 ≤ (δ.I x2 ((x9).toNat)) ∧ (δ.I x2 ((x9).toNat)) ≤ 2147483647) then (
      if 0 ≤ (x0 * (δ.I x2 ((x9).toNat))) ∧ (x0 * (δ.I x2 ((x9).toNat))) ≤ 9223372036854775807 ∧ 0 < x3 ∧ x3 ≤ 9223372036854775807 then (
      if dA δ 1 x5 then (
      if dI δ x5 x9 then (
      (some (δ.w x5 ((x9).toNat) ((x0 * (δ.I x2 ((x9).toNat))) / x3))).bind fun t10 =>
      if dA t10 1 x5 then (
      if dI t10 x5 x9 then (
      dm_245_66 L xs n x0 x2 x3 x5 (x6 - (t10.I x5 ((x9).toNat))) x8 (x9 + 1) s t10) else none) else none) else none) else none) else none) else none) else none)) else none) else none) else none
theorem de_245_66 {z : iv_Z} {L : Nat} {xs : Nat → Int32} (hz : dZ z L xs) {d : Nat} (hd : 0 ≤ d) : ∀ (n : Nat) (x0 : Int) (x2 : Nat) (x3 : Int) (x5 : Nat) (x6 : Int) (x8 : Nat) (x9 : Int) (s : gx_S) (δ : dS) (q : Nat × DS), dm_245_66 L xs n x0 x2 x3 x5 x6 x8 x9 s δ = some q → dE z 245 d 66 [some (.long (Int64.ofInt x0)), none, some (.ref x2), some (.long (Int64.ofInt x3)), none, some (.ref x5), some (.long (Int64.ofInt x6)), none, some (.ref x8), some (.int (Int32.ofInt x9)), none] [] (s, δ) (some (.ref q.1)) q.2 := by
  intro n
  induction n with
  | zero =>
    intro x0 x2 x3 x5 x6 x8 x9 s δ q h
    rw [dm_245_66] at h
    exact fx_no h
  | succ n ih =>
    intro x0 x2 x3 x5 x6 x8 x9 s δ q h
    rw [dm_245_66] at h
    refine ds_iload (k := 9) (p := 68) (by decide +kernel) rfl rfl ?_
    refine ds_aload_n (k := 2) (p := 69) (by decide +kernel) rfl rfl ?_
    obtain ⟨z1, h⟩ := fx_gd h
    refine ds_alen (t := 0) (p := 70) (by decide +kernel) rfl z1 (by decide) ?_
    obtain ⟨z2, h⟩ := fx_gd h
    obtain ⟨z3, h⟩ := fx_gd h
    by_cases c4 : ((δ.sh x2).2 : Int) ≤ x9
    · rw [if_pos c4] at h
      refine ds_icmp_ge_t (off := 33) (t := 103) (by decide +kernel) (by decide +kernel) ((gc_le rfl rfl z3 z2).mpr c4) ?_
      exact de_245_103 hz hd 100000 _ _ _ _ _ _ _ _ _ _ _ h
    · rw [if_neg c4] at h
      refine ds_icmp_ge_f (off := 33) (t := 103) (p := 73) (by decide +kernel) (by decide +kernel) rfl (fun q => c4 ((gc_le rfl rfl z3 z2).mp q)) ?_
      refine ds_aload (k := 5) (p := 75) (by decide +kernel) rfl rfl ?_
      refine ds_iload (k := 9) (p := 77) (by decide +kernel) rfl rfl ?_
      refine ds_lload_n (k := 0) (p := 78) (by decide +kernel) rfl rfl ?_
      refine ds_aload_n (k := 2) (p := 79) (by decide +kernel) rfl rfl ?_
      refine ds_iload (k := 9) (p := 81) (by decide +kernel) rfl rfl ?_
      obtain ⟨z5, h⟩ := fx_gd h
      refine ds_iaload (p := 82) (by decide +kernel) rfl z1 z5 ?_
      obtain ⟨z6, h⟩ := fx_gd h
      refine ds_i2l (p := 83) (c := Int64.ofInt (δ.I x2 ((x9).toNat))) (by decide +kernel) rfl (ga_i2l rfl z6) ?_
      refine ds_lmul (p := 84) (c := Int64.ofInt (x0 * (δ.I x2 ((x9).toNat)))) (by decide +kernel) rfl (gal_mul rfl rfl) ?_
      refine ds_lload_n (k := 3) (p := 85) (by decide +kernel) rfl rfl ?_
      obtain ⟨z7, h⟩ := fx_gd h
      refine ds_ldiv (p := 86) (c := Int64.ofInt ((x0 * (δ.I x2 ((x9).toNat))) / x3)) (by decide +kernel) rfl (gcl_nz rfl (x := (x0 * (δ.I x2 ((x9).toNat)))) z7) (gal_div rfl rfl z7) ?_
      obtain ⟨z8, h⟩ := fx_gd h
      obtain ⟨z9, h⟩ := fx_gd h
      obtain ⟨t10, w11, h⟩ := fx_bd h
      refine ds_lastore (p := 87) (by decide +kernel) rfl z8 z9 ?_
      rw [Option.some.inj w11]
      refine ds_lload (k := 6) (p := 89) (by decide +kernel) rfl rfl ?_
      refine ds_aload (k := 5) (p := 91) (by decide +kernel) rfl rfl ?_
      refine ds_iload (k := 9) (p := 93) (by decide +kernel) rfl rfl ?_
      obtain ⟨z12, h⟩ := fx_gd h
      obtain ⟨z13, h⟩ := fx_gd h
      refine ds_laload (p := 94) (by decide +kernel) rfl z12 z13 ?_
      refine ds_lsub (p := 95) (c := Int64.ofInt (x6 - (t10.I x5 ((x9).toNat)))) (by decide +kernel) rfl (gal_sub rfl rfl) ?_
      refine ds_lstore (k := 6) (p := 97) (M := 11) (al' := [some (.long (Int64.ofInt x0)), none, some (.ref x2), some (.long (Int64.ofInt x3)), none, some (.ref x5), some (.long (Int64.ofInt (x6 - (t10.I x5 ((x9).toNat))))), none, some (.ref x8), some (.int (Int32.ofInt x9)), none]) (by decide +kernel) rfl mx_245 rfl rfl ?_
      refine ds_iinc (k := 9) (n := 1) (p := 100) (M := 11) (y := Int32.ofInt (x9 + 1)) (al' := [some (.long (Int64.ofInt x0)), none, some (.ref x2), some (.long (Int64.ofInt x3)), none, some (.ref x5), some (.long (Int64.ofInt (x6 - (t10.I x5 ((x9).toNat))))), none, some (.ref x8), some (.int (Int32.ofInt (x9 + 1))), none]) (by decide +kernel) rfl rfl mx_245 rfl rfl (ga_add rfl rfl) rfl ?_
      refine ds_goto (off := -34) (p := 66) (by decide +kernel) (by decide +kernel) ?_
      exact ih _ _ _ _ _ _ _ _ _ _ h
def dm_245_13 (L : Nat) (xs : Nat → Int32) : Nat → Int → Nat → Int → Nat → Int → Int → gx_S → dS → Option (Nat × DS)
  | 0, _, _, _, _, _, _, _, _ => none
  | n + 1, x0, x2, x3, x5, x6, x7, s, δ =>
    if (-2147483648 ≤ x7 ∧ x7 ≤ 2147483647) then (
    if (-2147483648 ≤ x6 ∧ x6 ≤ 2147483647) then (
    if x6 ≤ x7 then (
      if dA δ 0 x2 then (
      if 0 ≤ ((δ.sh x2).2 : Int) ∧ ((δ.sh x2).2 : Int) ≤ 60000000 then (
      (some (δ.al 1 (((δ.sh x2).2 : Int)).toNat)).bind fun t6 =>
      if (-9223372036854775808 ≤ x3 ∧ x3 ≤ 9223372036854775807) then (
      if ¬ x3 = 0 then (
        if dA t6 0 x2 then (
        if 0 ≤ ((t6.sh x2).2 : Int) ∧ ((t6.sh x2).2 : Int) ≤ 60000000 then (
        (some (t6.al 2 (((t6.sh x2).2 : Int)).toNat)).bind fun t12 =>
        dm_245_66 L xs 100000 x0 x2 x3 δ.n x0 t6.n 0 s t12) else none) else none) else (
        some (δ.n, s, t6))) else none) else none) else none) else (
      if dA δ 0 x5 then (
      if dI δ x5 x7 then (
      if (-2147483648 ≤ (δ.I x5 ((x7).toNat)) ∧ (δ.I x5 ((x7).toNat)) ≤ 2147483647) then (
      dm_245_13 L xs n x0 x2 (x3 + (δ.I x5 ((x7).toNat))) x5 x6 (x7 + 1) s δ) else none) else none) else none)) else none) else none
theorem de_245_13 {z : iv_Z} {L : Nat} {xs : Nat → Int32} (hz : dZ z L xs) {d : Nat} (hd : 0 ≤ d) : ∀ (n : Nat) (x0 : Int) (x2 : Nat) (x3 : Int) (x5 : Nat) (x6 : Int) (x7 : Int) (o8 : Option Value) (s : gx_S) (δ : dS) (q : Nat × DS), dm_245_13 L xs n x0 x2 x3 x5 x6 x7 s δ = some q → dE z 245 d 13 [some (.long (Int64.ofInt x0)), none, some (.ref x2), some (.long (Int64.ofInt x3)), none, some (.ref x5), some (.int (Int32.ofInt x6)), some (.int (Int32.ofInt x7)), o8, none, none] [] (s, δ) (some (.ref q.1)) q.2 := by
  intro n
  induction n with
  | zero =>
    intro x0 x2 x3 x5 x6 x7 o8 s δ q h
    rw [dm_245_13] at h
    exact fx_no h
  | succ n ih =>
    intro x0 x2 x3 x5 x6 x7 o8 s δ q h
    rw [dm_245_13] at h
    refine ds_iload (k := 7) (p := 15) (by decide +kernel) rfl rfl ?_
    refine ds_iload (k := 6) (p := 17) (by decide +kernel) rfl rfl ?_
    obtain ⟨z1, h⟩ := fx_gd h
    obtain ⟨z2, h⟩ := fx_gd h
    by_cases c3 : x6 ≤ x7
    · rw [if_pos c3] at h
      refine ds_icmp_ge_t (off := 22) (t := 39) (by decide +kernel) (by decide +kernel) ((gc_le rfl rfl z2 z1).mpr c3) ?_
      refine ds_aload_n (k := 2) (p := 40) (by decide +kernel) rfl rfl ?_
      obtain ⟨z4, h⟩ := fx_gd h
      refine ds_alen (t := 0) (p := 41) (by decide +kernel) rfl z4 (by decide) ?_
      obtain ⟨z5, h⟩ := fx_gd h
      obtain ⟨t6, w7, h⟩ := fx_bd h
      refine ds_newarray (a := .long) (t := 1) (p := 43) (by decide +kernel) rfl (by decide +kernel) (by decide) z5 ?_
      rw [Option.some.inj w7]
      refine ds_astore (k := 5) (p := 45) (M := 11) (al' := [some (.long (Int64.ofInt x0)), none, some (.ref x2), some (.long (Int64.ofInt x3)), none, some (.ref δ.n), some (.int (Int32.ofInt x6)), some (.int (Int32.ofInt x7)), o8, none, none]) (by decide +kernel) rfl mx_245 rfl rfl ?_
      refine ds_lload_n (k := 3) (p := 46) (by decide +kernel) rfl rfl ?_
      refine ds_lconst (n := 0) (p := 47) (by decide +kernel) rfl dl_0 ?_
      obtain ⟨z8, h⟩ := fx_gd h
      by_cases c9 : ¬ x3 = 0
      · rw [if_pos c9] at h
        refine ds_lcmp_ne_t (off := 6) (t := 54) (by decide +kernel) (by decide +kernel) (by decide +kernel) ((gcl_ne rfl rfl z8 (by decide)).mpr c9) ?_
        refine ds_lload_n (k := 0) (p := 55) (by decide +kernel) rfl rfl ?_
        refine ds_lstore (k := 6) (p := 57) (M := 11) (al' := [some (.long (Int64.ofInt x0)), none, some (.ref x2), some (.long (Int64.ofInt x3)), none, some (.ref δ.n), some (.long (Int64.ofInt x0)), none, o8, none, none]) (by decide +kernel) rfl mx_245 rfl rfl ?_
        refine ds_aload_n (k := 2) (p := 58) (by decide +kernel) rfl rfl ?_
        obtain ⟨z10, h⟩ := fx_gd h
        refine ds_alen (t := 0) (p := 59) (by decide +kernel) rfl z10 (by decide) ?_
        obtain ⟨z11, h⟩ := fx_gd h
        obtain ⟨t12, w13, h⟩ := fx_bd h
        refine ds_newarray (a := .boolean) (t := 2) (p := 61) (by decide +kernel) rfl (by decide +kernel) (by decide) z11 ?_
        rw [Option.some.inj w13]
        refine ds_astore (k := 8) (p := 63) (M := 11) (al' := [some (.long (Int64.ofInt x0)), none, some (.ref x2), some (.long (Int64.ofInt x3)), none, some (.ref δ.n), some (.long (Int64.ofInt x0)), none, some (.ref t6.n), none, none]) (by decide +kernel) rfl mx_245 rfl rfl ?_
        refine ds_iconst (n := 0) (p := 64) (by decide +kernel) rfl rfl ?_
        refine ds_istore (k := 9) (p := 66) (M := 11) (al' := [some (.long (Int64.ofInt x0)), none, some (.ref x2), some (.long (Int64.ofInt x3)), none, some (.ref δ.n), some (.long (Int64.ofInt x0)), none, some (.ref t6.n), some (.int (Int32.ofInt 0)), none]) (by decide +kernel) rfl mx_245 rfl rfl ?_
        exact de_245_66 hz hd 100000 _ _ _ _ _ _ _ _ _ _ h
      · rw [if_neg c9] at h
        refine ds_lcmp_ne_f (off := 6) (t := 54) (p := 51) (by decide +kernel) (by decide +kernel) (by decide +kernel) rfl (fun q => c9 ((gcl_ne rfl rfl z8 (by decide)).mp q)) ?_
        refine ds_aload (k := 5) (p := 53) (by decide +kernel) rfl rfl ?_
        have h := Option.some.inj h
        subst h
        exact ds_aret (by decide +kernel) (by decide +kernel)
    · rw [if_neg c3] at h
      refine ds_icmp_ge_f (off := 22) (t := 39) (p := 20) (by decide +kernel) (by decide +kernel) rfl (fun q => c3 ((gc_le rfl rfl z2 z1).mp q)) ?_
      refine ds_aload (k := 5) (p := 22) (by decide +kernel) rfl rfl ?_
      refine ds_iload (k := 7) (p := 24) (by decide +kernel) rfl rfl ?_
      obtain ⟨z14, h⟩ := fx_gd h
      obtain ⟨z15, h⟩ := fx_gd h
      refine ds_iaload (p := 25) (by decide +kernel) rfl z14 z15 ?_
      refine ds_istore (k := 8) (p := 27) (M := 11) (al' := [some (.long (Int64.ofInt x0)), none, some (.ref x2), some (.long (Int64.ofInt x3)), none, some (.ref x5), some (.int (Int32.ofInt x6)), some (.int (Int32.ofInt x7)), some (.int (Int32.ofInt (δ.I x5 ((x7).toNat)))), none, none]) (by decide +kernel) rfl mx_245 rfl rfl ?_
      refine ds_lload_n (k := 3) (p := 28) (by decide +kernel) rfl rfl ?_
      refine ds_iload (k := 8) (p := 30) (by decide +kernel) rfl rfl ?_
      obtain ⟨z16, h⟩ := fx_gd h
      refine ds_i2l (p := 31) (c := Int64.ofInt (δ.I x5 ((x7).toNat))) (by decide +kernel) rfl (ga_i2l rfl z16) ?_
      refine ds_ladd (p := 32) (c := Int64.ofInt (x3 + (δ.I x5 ((x7).toNat)))) (by decide +kernel) rfl (gal_add rfl rfl) ?_
      refine ds_lstore_n (k := 3) (p := 33) (M := 11) (al' := [some (.long (Int64.ofInt x0)), none, some (.ref x2), some (.long (Int64.ofInt (x3 + (δ.I x5 ((x7).toNat))))), none, some (.ref x5), some (.int (Int32.ofInt x6)), some (.int (Int32.ofInt x7)), some (.int (Int32.ofInt (δ.I x5 ((x7).toNat)))), none, none]) (by decide +kernel) rfl mx_245 rfl rfl ?_
      refine ds_iinc (k := 7) (n := 1) (p := 36) (M := 11) (y := Int32.ofInt (x7 + 1)) (al' := [some (.long (Int64.ofInt x0)), none, some (.ref x2), some (.long (Int64.ofInt (x3 + (δ.I x5 ((x7).toNat))))), none, some (.ref x5), some (.int (Int32.ofInt x6)), some (.int (Int32.ofInt (x7 + 1))), some (.int (Int32.ofInt (δ.I x5 ((x7).toNat)))), none, none]) (by decide +kernel) rfl rfl mx_245 rfl rfl (ga_add rfl rfl) rfl ?_
      refine ds_goto (off := -23) (p := 13) (by decide +kernel) (by decide +kernel) ?_
      exact ih _ _ _ _ _ _ _ _ _ _ h
def dm_245 (L : Nat) (xs : Nat → Int32) (x0 : Int) (x2 : Nat) (s : gx_S) (δ : dS) : Option (Nat × DS) :=
  if dA δ 0 x2 then (
  dm_245_13 L xs 100000 x0 x2 0 x2 ((δ.sh x2).2 : Int) 0 s δ) else none
theorem de_245 {z : iv_Z} {L : Nat} {xs : Nat → Int32} (hz : dZ z L xs) {d : Nat} (hd : 0 ≤ d) {x0 : Int} {x2 : Nat} {s : gx_S} {δ : dS} {q : Nat × DS} (h : dm_245 L xs x0 x2 s δ = some q) : dE z 245 d 0 [some (.long (Int64.ofInt x0)), none, some (.ref x2), none, none, none, none, none, none, none, none] [] (s, δ) (some (.ref q.1)) q.2 := by
  unfold dm_245 at h
  refine ds_lconst (n := 0) (p := 1) (by decide +kernel) rfl dl_0 ?_
  refine ds_lstore_n (k := 3) (p := 2) (M := 11) (al' := [some (.long (Int64.ofInt x0)), none, some (.ref x2), some (.long (Int64.ofInt 0)), none, none, none, none, none, none, none]) (by decide +kernel) rfl mx_245 rfl rfl ?_
  refine ds_aload_n (k := 2) (p := 3) (by decide +kernel) rfl rfl ?_
  refine ds_astore (k := 5) (p := 5) (M := 11) (al' := [some (.long (Int64.ofInt x0)), none, some (.ref x2), some (.long (Int64.ofInt 0)), none, some (.ref x2), none, none, none, none, none]) (by decide +kernel) rfl mx_245 rfl rfl ?_
  refine ds_aload (k := 5) (p := 7) (by decide +kernel) rfl rfl ?_
  obtain ⟨z1, h⟩ := fx_gd h
  refine ds_alen (t := 0) (p := 8) (by decide +kernel) rfl z1 (by decide) ?_
  refine ds_istore (k := 6) (p := 10) (M := 11) (al' := [some (.long (Int64.ofInt x0)), none, some (.ref x2), some (.long (Int64.ofInt 0)), none, some (.ref x2), some (.int (Int32.ofInt ((δ.sh x2).2 : Int))), none, none, none, none]) (by decide +kernel) rfl mx_245 rfl rfl ?_
  refine ds_iconst (n := 0) (p := 11) (by decide +kernel) rfl rfl ?_
  refine ds_istore (k := 7) (p := 13) (M := 11) (al' := [some (.long (Int64.ofInt x0)), none, some (.ref x2), some (.long (Int64.ofInt 0)), none, some (.ref x2), some (.int (Int32.ofInt ((δ.sh x2).2 : Int))), some (.int (Int32.ofInt 0)), none, none, none]) (by decide +kernel) rfl mx_245 rfl rfl ?_
  exact de_245_13 hz hd 100000 _ _ _ _ _ _ _ _ _ _ h
/-! ZoneSharesLaw.living(LZoneSharesLaw$Map;I)[J d -/
theorem mx_248 : iv_mx 248 = 7 := by decide +kernel
def dm_248_91 (L : Nat) (xs : Nat → Int32) (x2 : Nat) (s : gx_S) (δ : dS) : Option (Nat × DS) :=
  some (x2, s, δ)
theorem de_248_91 {z : iv_Z} {L : Nat} {xs : Nat → Int32} (hz : dZ z L xs) {d : Nat} (hd : 2 ≤ d) (x2 : Nat) (o0 : Option Value) (o1 : Option Value) (o3 : Option Value) (o4 : Option Value) (o5 : Option Value) (s : gx_S) (δ : dS) (q : Nat × DS) (h : dm_248_91 L xs  x2 s δ = some q) : dE z 248 d 91 [o0, o1, some (.ref x2), o3, o4, o5, none] [] (s, δ) (some (.ref q.1)) q.2 := by
  unfold dm_248_91 at h
  refine ds_aload_n (k := 2) (p := 92) (by decide +kernel) rfl rfl ?_
  have h := Option.some.inj h
  subst h
  exact ds_aret (by decide +kernel) (by decide +kernel)
def dm_248_142 (L : Nat) (xs : Nat → Int32) : Nat → Nat → Nat → Int → gx_S → dS → Option (Nat × DS)
  | 0, _, _, _, _, _ => none
  | n + 1, x2, x5, x6, s, δ =>
    if (-2147483648 ≤ x6 ∧ x6 ≤ 2147483647) then (
    if 8 ≤ x6 then (
      some (x2, s, δ)) else (
      if dA δ 1 x2 then (
      if dI δ x2 x6 then (
      if dA δ 1 x5 then (
      if dI δ x5 x6 then (
      (some (δ.w x2 ((x6).toNat) ((δ.I x2 ((x6).toNat)) + (δ.I x5 ((x6).toNat))))).bind fun t7 =>
      dm_248_142 L xs n x2 x5 (x6 + 1) s t7) else none) else none) else none) else none)) else none
theorem de_248_142 {z : iv_Z} {L : Nat} {xs : Nat → Int32} (hz : dZ z L xs) {d : Nat} (hd : 2 ≤ d) : ∀ (n : Nat) (x2 : Nat) (x5 : Nat) (x6 : Int) (o0 : Option Value) (o1 : Option Value) (o3 : Option Value) (o4 : Option Value) (s : gx_S) (δ : dS) (q : Nat × DS), dm_248_142 L xs n x2 x5 x6 s δ = some q → dE z 248 d 142 [o0, o1, some (.ref x2), o3, o4, some (.ref x5), some (.int (Int32.ofInt x6))] [] (s, δ) (some (.ref q.1)) q.2 := by
  intro n
  induction n with
  | zero =>
    intro x2 x5 x6 o0 o1 o3 o4 s δ q h
    rw [dm_248_142] at h
    exact fx_no h
  | succ n ih =>
    intro x2 x5 x6 o0 o1 o3 o4 s δ q h
    rw [dm_248_142] at h
    refine ds_iload (k := 6) (p := 144) (by decide +kernel) rfl rfl ?_
    refine ds_bipush (n := 8) (p := 146) (by decide +kernel) rfl dkb_8 ?_
    obtain ⟨z1, h⟩ := fx_gd h
    by_cases c2 : 8 ≤ x6
    · rw [if_pos c2] at h
      refine ds_icmp_ge_t (off := 21) (t := 167) (by decide +kernel) (by decide +kernel) ((gc_le rfl rfl (by decide) z1).mpr c2) ?_
      refine ds_aload_n (k := 2) (p := 168) (by decide +kernel) rfl rfl ?_
      have h := Option.some.inj h
      subst h
      exact ds_aret (by decide +kernel) (by decide +kernel)
    · rw [if_neg c2] at h
      refine ds_icmp_ge_f (off := 21) (t := 167) (p := 149) (by decide +kernel) (by decide +kernel) rfl (fun q => c2 ((gc_le rfl rfl (by decide) z1).mp q)) ?_
      refine ds_aload_n (k := 2) (p := 150) (by decide +kernel) rfl rfl ?_
      refine ds_iload (k := 6) (p := 152) (by decide +kernel) rfl rfl ?_
      refine ds_dup2 (p := 153) (by decide +kernel) rfl rfl rfl ?_
      obtain ⟨z3, h⟩ := fx_gd h
      obtain ⟨z4, h⟩ := fx_gd h
      refine ds_laload (p := 154) (by decide +kernel) rfl z3 z4 ?_
      refine ds_aload (k := 5) (p := 156) (by decide +kernel) rfl rfl ?_
      refine ds_iload (k := 6) (p := 158) (by decide +kernel) rfl rfl ?_
      obtain ⟨z5, h⟩ := fx_gd h
      obtain ⟨z6, h⟩ := fx_gd h
      refine ds_laload (p := 159) (by decide +kernel) rfl z5 z6 ?_
      refine ds_ladd (p := 160) (c := Int64.ofInt ((δ.I x2 ((x6).toNat)) + (δ.I x5 ((x6).toNat)))) (by decide +kernel) rfl (gal_add rfl rfl) ?_
      obtain ⟨t7, w8, h⟩ := fx_bd h
      refine ds_lastore (p := 161) (by decide +kernel) rfl z3 z4 ?_
      rw [Option.some.inj w8]
      refine ds_iinc (k := 6) (n := 1) (p := 164) (M := 7) (y := Int32.ofInt (x6 + 1)) (al' := [o0, o1, some (.ref x2), o3, o4, some (.ref x5), some (.int (Int32.ofInt (x6 + 1)))]) (by decide +kernel) rfl rfl mx_248 rfl rfl (ga_add rfl rfl) rfl ?_
      refine ds_goto (off := -22) (p := 142) (by decide +kernel) (by decide +kernel) ?_
      exact ih _ _ _ _ _ _ _ _ _ _ h
def dm_248_127 (L : Nat) (xs : Nat → Int32) (x0 : Nat) (x1 : Int) (x2 : Nat) (x3 : Nat) (s : gx_S) (δ : dS) : Option (Nat × DS) :=
  (dm_246 L xs x0 x1 s δ).bind fun q1 =>
  if (-2147483648 ≤ q1.1 ∧ q1.1 ≤ 2147483647) then (
  (dm_245 L xs q1.1 x3 q1.2.1 q1.2.2).bind fun q4 =>
  dm_248_142 L xs 100000 x2 q4.1 0 q4.2.1 q4.2.2) else none
theorem de_248_127 {z : iv_Z} {L : Nat} {xs : Nat → Int32} (hz : dZ z L xs) {d : Nat} (hd : 2 ≤ d) (x0 : Nat) (x1 : Int) (x2 : Nat) (x3 : Nat) (o4 : Option Value) (o5 : Option Value) (s : gx_S) (δ : dS) (q : Nat × DS) (h : dm_248_127 L xs  x0 x1 x2 x3 s δ = some q) : dE z 248 d 127 [some (.ref x0), some (.int (Int32.ofInt x1)), some (.ref x2), some (.ref x3), o4, o5, none] [] (s, δ) (some (.ref q.1)) q.2 := by
  unfold dm_248_127 at h
  refine ds_aload_n (k := 0) (p := 128) (by decide +kernel) rfl rfl ?_
  refine ds_iload_n (k := 1) (p := 129) (by decide +kernel) rfl rfl ?_
  obtain ⟨q1, w2, h⟩ := fx_bd h
  refine ds_callS (idx := 122) (mj := 246) (na := 2) (mx := 4) (p := 132) (args := [.ref x0, .int (Int32.ofInt x1)]) (rest := []) (al2 := [some (.ref x0), some (.int (Int32.ofInt x1)), none, none]) (S2 := q1.2) (by decide +kernel) rfl (by decide +kernel) rfl rfl rfl rfl rfl rfl (by omega) (fun d' hd' => de_246 hz (by omega) w2) rfl ?_
  obtain ⟨z3, h⟩ := fx_gd h
  refine ds_i2l (p := 133) (c := Int64.ofInt q1.1) (by decide +kernel) rfl (ga_i2l rfl z3) ?_
  refine ds_aload_n (k := 3) (p := 134) (by decide +kernel) rfl rfl ?_
  obtain ⟨q4, w5, h⟩ := fx_bd h
  refine ds_callS (idx := 125) (mj := 245) (na := 2) (mx := 11) (p := 137) (args := [.long (Int64.ofInt q1.1), .ref x3]) (rest := []) (al2 := [some (.long (Int64.ofInt q1.1)), none, some (.ref x3), none, none, none, none, none, none, none, none]) (S2 := q4.2) (by decide +kernel) rfl (by decide +kernel) rfl rfl rfl rfl rfl rfl (by omega) (fun d' hd' => de_245 hz (by omega) w5) rfl ?_
  refine ds_astore (k := 5) (p := 139) (M := 7) (al' := [some (.ref x0), some (.int (Int32.ofInt x1)), some (.ref x2), some (.ref x3), (fx_kl o4), some (.ref q4.1), none]) (by decide +kernel) rfl mx_248 rfl rfl ?_
  refine ds_iconst (n := 0) (p := 140) (by decide +kernel) rfl rfl ?_
  refine ds_istore (k := 6) (p := 142) (M := 7) (al' := [some (.ref x0), some (.int (Int32.ofInt x1)), some (.ref x2), some (.ref x3), (fx_kl o4), some (.ref q4.1), some (.int (Int32.ofInt 0))]) (by decide +kernel) rfl mx_248 rfl rfl ?_
  exact de_248_142 hz hd 100000 _ _ _ _ _ _ _ _ _ _ h
def dm_248_96 (L : Nat) (xs : Nat → Int32) : Nat → Nat → Int → Nat → Nat → Int → Int → gx_S → dS → Option (Nat × DS)
  | 0, _, _, _, _, _, _, _, _ => none
  | n + 1, x0, x1, x2, x3, x4, x5, s, δ =>
    if (-2147483648 ≤ x5 ∧ x5 ≤ 2147483647) then (
    if 8 ≤ x5 then (
      dm_248_127 L xs x0 x1 x2 x3 s δ) else (
      if (-2147483648 ≤ x4 ∧ x4 ≤ 2147483647) then (
      if ¬ x4 = 0 then (
        dm_248_127 L xs x0 x1 x2 x3 s δ) else (
        if dO δ x0 10 then (
        (δ.P x0 4).bind fun v6 =>
        (dm_243 L xs v6 x5 s δ).bind fun q8 =>
        if dA q8.2.2 0 x3 then (
        if dI q8.2.2 x3 x5 then (
        (some (q8.2.2.w x3 ((x5).toNat) q8.1)).bind fun t12 =>
        dm_248_96 L xs n x0 x1 x2 x3 x4 (x5 + 1) q8.2.1 t12) else none) else none) else none)) else none)) else none
theorem de_248_96 {z : iv_Z} {L : Nat} {xs : Nat → Int32} (hz : dZ z L xs) {d : Nat} (hd : 2 ≤ d) : ∀ (n : Nat) (x0 : Nat) (x1 : Int) (x2 : Nat) (x3 : Nat) (x4 : Int) (x5 : Int) (s : gx_S) (δ : dS) (q : Nat × DS), dm_248_96 L xs n x0 x1 x2 x3 x4 x5 s δ = some q → dE z 248 d 96 [some (.ref x0), some (.int (Int32.ofInt x1)), some (.ref x2), some (.ref x3), some (.int (Int32.ofInt x4)), some (.int (Int32.ofInt x5)), none] [] (s, δ) (some (.ref q.1)) q.2 := by
  intro n
  induction n with
  | zero =>
    intro x0 x1 x2 x3 x4 x5 s δ q h
    rw [dm_248_96] at h
    exact fx_no h
  | succ n ih =>
    intro x0 x1 x2 x3 x4 x5 s δ q h
    rw [dm_248_96] at h
    refine ds_iload (k := 5) (p := 98) (by decide +kernel) rfl rfl ?_
    refine ds_bipush (n := 8) (p := 100) (by decide +kernel) rfl dkb_8 ?_
    obtain ⟨z1, h⟩ := fx_gd h
    by_cases c2 : 8 ≤ x5
    · rw [if_pos c2] at h
      refine ds_icmp_ge_t (off := 27) (t := 127) (by decide +kernel) (by decide +kernel) ((gc_le rfl rfl (by decide) z1).mpr c2) ?_
      exact de_248_127 hz hd _ _ _ _ _ _ _ _ _ h
    · rw [if_neg c2] at h
      refine ds_icmp_ge_f (off := 27) (t := 127) (p := 103) (by decide +kernel) (by decide +kernel) rfl (fun q => c2 ((gc_le rfl rfl (by decide) z1).mp q)) ?_
      refine ds_iload (k := 4) (p := 105) (by decide +kernel) rfl rfl ?_
      obtain ⟨z3, h⟩ := fx_gd h
      by_cases c4 : ¬ x4 = 0
      · rw [if_pos c4] at h
        refine ds_if_ne_t (off := 22) (t := 127) (by decide +kernel) (by decide +kernel) ((gc_ne rfl rfl z3 (by decide)).mpr c4) ?_
        exact de_248_127 hz hd _ _ _ _ _ _ _ _ _ h
      · rw [if_neg c4] at h
        refine ds_if_ne_f (off := 22) (t := 127) (p := 108) (by decide +kernel) (by decide +kernel) rfl (fun q => c4 ((gc_ne rfl rfl z3 (by decide)).mp q)) ?_
        refine ds_aload_n (k := 3) (p := 109) (by decide +kernel) rfl rfl ?_
        refine ds_iload (k := 5) (p := 111) (by decide +kernel) rfl rfl ?_
        refine ds_aload_n (k := 0) (p := 112) (by decide +kernel) rfl rfl ?_
        obtain ⟨z5, h⟩ := fx_gd h
        obtain ⟨v6, w7, h⟩ := fx_bd h
        refine ds_gfr (idx := 55) (ci := 10) (j := 4) (p := 115) (by decide +kernel) rfl (by decide +kernel) z5 w7 ?_
        refine ds_iload (k := 5) (p := 117) (by decide +kernel) rfl rfl ?_
        obtain ⟨q8, w9, h⟩ := fx_bd h
        refine ds_callS (idx := 115) (mj := 243) (na := 2) (mx := 7) (p := 120) (args := [.ref v6, .int (Int32.ofInt x5)]) (rest := [.int (Int32.ofInt x5), .ref x3]) (al2 := [some (.ref v6), some (.int (Int32.ofInt x5)), none, none, none, none, none]) (S2 := q8.2) (by decide +kernel) rfl (by decide +kernel) rfl rfl rfl rfl rfl rfl (by omega) (fun d' hd' => de_243 hz (by omega) w9) rfl ?_
        obtain ⟨z10, h⟩ := fx_gd h
        obtain ⟨z11, h⟩ := fx_gd h
        obtain ⟨t12, w13, h⟩ := fx_bd h
        refine ds_iastore (p := 121) (by decide +kernel) rfl z10 z11 ?_
        rw [Option.some.inj w13]
        refine ds_iinc (k := 5) (n := 1) (p := 124) (M := 7) (y := Int32.ofInt (x5 + 1)) (al' := [some (.ref x0), some (.int (Int32.ofInt x1)), some (.ref x2), some (.ref x3), some (.int (Int32.ofInt x4)), some (.int (Int32.ofInt (x5 + 1))), none]) (by decide +kernel) rfl rfl mx_248 rfl rfl (ga_add rfl rfl) rfl ?_
        refine ds_goto (off := -28) (p := 96) (by decide +kernel) (by decide +kernel) ?_
        exact ih _ _ _ _ _ _ _ _ _ h
def dm_248_52 (L : Nat) (xs : Nat → Int32) (k_16 : Nat → Int → Nat → Nat → Int → Int → gx_S → dS → Option (Nat × DS)) (x0 : Nat) (x1 : Int) (x2 : Nat) (x3 : Nat) (x4 : Int) (x5 : Int) (s0 : Nat) (s1 : Int) (s2 : Int) (s : gx_S) (δ : dS) : Option (Nat × DS) :=
  if dA δ 1 s0 then (
  if dI δ s0 s1 then (
  (some (δ.w s0 ((s1).toNat) s2)).bind fun t3 =>
  if dA t3 1 x2 then (
  if dI t3 x2 x5 then (
  if dA t3 0 x3 then (
  if dI t3 x3 x5 then (
  (some (t3.w x3 ((x5).toNat) (t3.I x2 ((x5).toNat)))).bind fun t9 =>
  if dA t9 0 x3 then (
  if dI t9 x3 x5 then (
  k_16 x0 x1 x2 x3 (x4 + (t9.I x3 ((x5).toNat))) (x5 + 1) s t9) else none) else none) else none) else none) else none) else none) else none) else none
theorem de_248_52 {z : iv_Z} {L : Nat} {xs : Nat → Int32} (hz : dZ z L xs) {d : Nat} (hd : 2 ≤ d) {k_16 : Nat → Int → Nat → Nat → Int → Int → gx_S → dS → Option (Nat × DS)} (hk_16 : ∀ (x0 : Nat) (x1 : Int) (x2 : Nat) (x3 : Nat) (x4 : Int) (x5 : Int) (s : gx_S) (δ : dS) (q : Nat × DS), k_16 x0 x1 x2 x3 x4 x5 s δ = some q → dE z 248 d 16 [some (.ref x0), some (.int (Int32.ofInt x1)), some (.ref x2), some (.ref x3), some (.int (Int32.ofInt x4)), some (.int (Int32.ofInt x5)), none] [] (s, δ) (some (.ref q.1)) q.2) (x0 : Nat) (x1 : Int) (x2 : Nat) (x3 : Nat) (x4 : Int) (x5 : Int) (s0 : Nat) (s1 : Int) (s2 : Int) (s : gx_S) (δ : dS) (q : Nat × DS) (h : dm_248_52 L xs k_16  x0 x1 x2 x3 x4 x5 s0 s1 s2 s δ = some q) : dE z 248 d 52 [some (.ref x0), some (.int (Int32.ofInt x1)), some (.ref x2), some (.ref x3), some (.int (Int32.ofInt x4)), some (.int (Int32.ofInt x5)), none] [.long (Int64.ofInt s2), .int (Int32.ofInt s1), .ref s0] (s, δ) (some (.ref q.1)) q.2 := by
  unfold dm_248_52 at h
  obtain ⟨z1, h⟩ := fx_gd h
  obtain ⟨z2, h⟩ := fx_gd h
  obtain ⟨t3, w4, h⟩ := fx_bd h
  refine ds_lastore (p := 53) (by decide +kernel) rfl z1 z2 ?_
  rw [Option.some.inj w4]
  refine ds_aload_n (k := 3) (p := 54) (by decide +kernel) rfl rfl ?_
  refine ds_iload (k := 5) (p := 56) (by decide +kernel) rfl rfl ?_
  refine ds_aload_n (k := 2) (p := 57) (by decide +kernel) rfl rfl ?_
  refine ds_iload (k := 5) (p := 59) (by decide +kernel) rfl rfl ?_
  obtain ⟨z5, h⟩ := fx_gd h
  obtain ⟨z6, h⟩ := fx_gd h
  refine ds_laload (p := 60) (by decide +kernel) rfl z5 z6 ?_
  refine ds_l2i (p := 61) (c := Int32.ofInt (t3.I x2 ((x5).toNat))) (by decide +kernel) rfl (ga_l2i rfl) ?_
  obtain ⟨z7, h⟩ := fx_gd h
  obtain ⟨z8, h⟩ := fx_gd h
  obtain ⟨t9, w10, h⟩ := fx_bd h
  refine ds_iastore (p := 62) (by decide +kernel) rfl z7 z8 ?_
  rw [Option.some.inj w10]
  refine ds_iload (k := 4) (p := 64) (by decide +kernel) rfl rfl ?_
  refine ds_aload_n (k := 3) (p := 65) (by decide +kernel) rfl rfl ?_
  refine ds_iload (k := 5) (p := 67) (by decide +kernel) rfl rfl ?_
  obtain ⟨z11, h⟩ := fx_gd h
  obtain ⟨z12, h⟩ := fx_gd h
  refine ds_iaload (p := 68) (by decide +kernel) rfl z11 z12 ?_
  refine ds_iadd (p := 69) (c := Int32.ofInt (x4 + (t9.I x3 ((x5).toNat)))) (by decide +kernel) rfl (ga_add rfl rfl) ?_
  refine ds_istore (k := 4) (p := 71) (M := 7) (al' := [some (.ref x0), some (.int (Int32.ofInt x1)), some (.ref x2), some (.ref x3), some (.int (Int32.ofInt (x4 + (t9.I x3 ((x5).toNat))))), some (.int (Int32.ofInt x5)), none]) (by decide +kernel) rfl mx_248 rfl rfl ?_
  refine ds_iinc (k := 5) (n := 1) (p := 74) (M := 7) (y := Int32.ofInt (x5 + 1)) (al' := [some (.ref x0), some (.int (Int32.ofInt x1)), some (.ref x2), some (.ref x3), some (.int (Int32.ofInt (x4 + (t9.I x3 ((x5).toNat))))), some (.int (Int32.ofInt (x5 + 1))), none]) (by decide +kernel) rfl rfl mx_248 rfl rfl (ga_add rfl rfl) rfl ?_
  refine ds_goto (off := -58) (p := 16) (by decide +kernel) (by decide +kernel) ?_
  exact hk_16 _ _ _ _ _ _ _ _ _ h
def dm_248_16 (L : Nat) (xs : Nat → Int32) : Nat → Nat → Int → Nat → Nat → Int → Int → gx_S → dS → Option (Nat × DS)
  | 0, _, _, _, _, _, _, _, _ => none
  | n + 1, x0, x1, x2, x3, x4, x5, s, δ =>
    if (-2147483648 ≤ x5 ∧ x5 ≤ 2147483647) then (
    if 8 ≤ x5 then (
      if dO δ x0 10 then (
      if (-2147483648 ≤ (δ.I x0 3) ∧ (δ.I x0 3) ≤ 2147483647) then (
      if (δ.I x0 3) = 0 then (
        dm_248_91 L xs x2 s δ) else (
        (dm_247 L xs x0 s δ).bind fun q6 =>
        if (-2147483648 ≤ q6.1 ∧ q6.1 ≤ 2147483647) then (
        if ¬ q6.1 = 0 then (
          dm_248_96 L xs 100000 x0 x1 x2 x3 x4 0 q6.2.1 q6.2.2) else (
          dm_248_91 L xs x2 q6.2.1 q6.2.2)) else none)) else none) else none) else (
      if dO δ x0 10 then (
      (δ.P x0 4).bind fun v11 =>
      (dm_243 L xs v11 x5 s δ).bind fun q13 =>
      if (-2147483648 ≤ q13.1 ∧ q13.1 ≤ 2147483647) then (
      if ¬ q13.1 = 0 then (
        if dO q13.2.2 x0 10 then (
        (q13.2.2.P x0 7).bind fun v18 =>
        if dA q13.2.2 6 v18 then (
        if dI q13.2.2 v18 x1 then (
        (q13.2.2.P v18 ((x1).toNat)).bind fun v22 =>
        if dA q13.2.2 0 v22 then (
        if dI q13.2.2 v22 x5 then (
        if (-2147483648 ≤ (q13.2.2.I v22 ((x5).toNat)) ∧ (q13.2.2.I v22 ((x5).toNat)) ≤ 2147483647) then (
        dm_248_52 L xs (dm_248_16 L xs n) x0 x1 x2 x3 x4 x5 x2 x5 (q13.2.2.I v22 ((x5).toNat)) q13.2.1 q13.2.2) else none) else none) else none) else none) else none) else none) else (
        dm_248_52 L xs (dm_248_16 L xs n) x0 x1 x2 x3 x4 x5 x2 x5 0 q13.2.1 q13.2.2)) else none) else none)) else none
theorem de_248_16 {z : iv_Z} {L : Nat} {xs : Nat → Int32} (hz : dZ z L xs) {d : Nat} (hd : 2 ≤ d) : ∀ (n : Nat) (x0 : Nat) (x1 : Int) (x2 : Nat) (x3 : Nat) (x4 : Int) (x5 : Int) (s : gx_S) (δ : dS) (q : Nat × DS), dm_248_16 L xs n x0 x1 x2 x3 x4 x5 s δ = some q → dE z 248 d 16 [some (.ref x0), some (.int (Int32.ofInt x1)), some (.ref x2), some (.ref x3), some (.int (Int32.ofInt x4)), some (.int (Int32.ofInt x5)), none] [] (s, δ) (some (.ref q.1)) q.2 := by
  intro n
  induction n with
  | zero =>
    intro x0 x1 x2 x3 x4 x5 s δ q h
    rw [dm_248_16] at h
    exact fx_no h
  | succ n ih =>
    intro x0 x1 x2 x3 x4 x5 s δ q h
    rw [dm_248_16] at h
    refine ds_iload (k := 5) (p := 18) (by decide +kernel) rfl rfl ?_
    refine ds_bipush (n := 8) (p := 20) (by decide +kernel) rfl dkb_8 ?_
    obtain ⟨z1, h⟩ := fx_gd h
    by_cases c2 : 8 ≤ x5
    · rw [if_pos c2] at h
      refine ds_icmp_ge_t (off := 57) (t := 77) (by decide +kernel) (by decide +kernel) ((gc_le rfl rfl (by decide) z1).mpr c2) ?_
      refine ds_aload_n (k := 0) (p := 78) (by decide +kernel) rfl rfl ?_
      obtain ⟨z3, h⟩ := fx_gd h
      refine ds_gfi (idx := 103) (ci := 10) (j := 3) (p := 81) (by decide +kernel) rfl (by decide +kernel) z3 ?_
      obtain ⟨z4, h⟩ := fx_gd h
      by_cases c5 : (δ.I x0 3) = 0
      · rw [if_pos c5] at h
        refine ds_if_eq_t (off := 10) (t := 91) (by decide +kernel) (by decide +kernel) ((gc_eq rfl rfl z4 (by decide)).mpr c5) ?_
        exact de_248_91 hz hd _ _ _ _ _ _ _ _ _ h
      · rw [if_neg c5] at h
        refine ds_if_eq_f (off := 10) (t := 91) (p := 84) (by decide +kernel) (by decide +kernel) rfl (fun q => c5 ((gc_eq rfl rfl z4 (by decide)).mp q)) ?_
        refine ds_aload_n (k := 0) (p := 85) (by decide +kernel) rfl rfl ?_
        obtain ⟨q6, w7, h⟩ := fx_bd h
        refine ds_callS (idx := 118) (mj := 247) (na := 1) (mx := 5) (p := 88) (args := [.ref x0]) (rest := []) (al2 := [some (.ref x0), none, none, none, none]) (S2 := q6.2) (by decide +kernel) rfl (by decide +kernel) rfl rfl rfl rfl rfl rfl (by omega) (fun d' hd' => de_247 hz (by omega) w7) rfl ?_
        obtain ⟨z8, h⟩ := fx_gd h
        by_cases c9 : ¬ q6.1 = 0
        · rw [if_pos c9] at h
          refine ds_if_ne_t (off := 5) (t := 93) (by decide +kernel) (by decide +kernel) ((gc_ne rfl rfl z8 (by decide)).mpr c9) ?_
          refine ds_iconst (n := 0) (p := 94) (by decide +kernel) rfl rfl ?_
          refine ds_istore (k := 5) (p := 96) (M := 7) (al' := [some (.ref x0), some (.int (Int32.ofInt x1)), some (.ref x2), some (.ref x3), some (.int (Int32.ofInt x4)), some (.int (Int32.ofInt 0)), none]) (by decide +kernel) rfl mx_248 rfl rfl ?_
          exact de_248_96 hz hd 100000 _ _ _ _ _ _ _ _ _ h
        · rw [if_neg c9] at h
          refine ds_if_ne_f (off := 5) (t := 93) (p := 91) (by decide +kernel) (by decide +kernel) rfl (fun q => c9 ((gc_ne rfl rfl z8 (by decide)).mp q)) ?_
          exact de_248_91 hz hd _ _ _ _ _ _ _ _ _ h
    · rw [if_neg c2] at h
      refine ds_icmp_ge_f (off := 57) (t := 77) (p := 23) (by decide +kernel) (by decide +kernel) rfl (fun q => c2 ((gc_le rfl rfl (by decide) z1).mp q)) ?_
      refine ds_aload_n (k := 2) (p := 24) (by decide +kernel) rfl rfl ?_
      refine ds_iload (k := 5) (p := 26) (by decide +kernel) rfl rfl ?_
      refine ds_aload_n (k := 0) (p := 27) (by decide +kernel) rfl rfl ?_
      obtain ⟨z10, h⟩ := fx_gd h
      obtain ⟨v11, w12, h⟩ := fx_bd h
      refine ds_gfr (idx := 55) (ci := 10) (j := 4) (p := 30) (by decide +kernel) rfl (by decide +kernel) z10 w12 ?_
      refine ds_iload (k := 5) (p := 32) (by decide +kernel) rfl rfl ?_
      obtain ⟨q13, w14, h⟩ := fx_bd h
      refine ds_callS (idx := 115) (mj := 243) (na := 2) (mx := 7) (p := 35) (args := [.ref v11, .int (Int32.ofInt x5)]) (rest := [.int (Int32.ofInt x5), .ref x2]) (al2 := [some (.ref v11), some (.int (Int32.ofInt x5)), none, none, none, none, none]) (S2 := q13.2) (by decide +kernel) rfl (by decide +kernel) rfl rfl rfl rfl rfl rfl (by omega) (fun d' hd' => de_243 hz (by omega) w14) rfl ?_
      obtain ⟨z15, h⟩ := fx_gd h
      by_cases c16 : ¬ q13.1 = 0
      · rw [if_pos c16] at h
        refine ds_if_ne_t (off := 7) (t := 42) (by decide +kernel) (by decide +kernel) ((gc_ne rfl rfl z15 (by decide)).mpr c16) ?_
        refine ds_aload_n (k := 0) (p := 43) (by decide +kernel) rfl rfl ?_
        obtain ⟨z17, h⟩ := fx_gd h
        obtain ⟨v18, w19, h⟩ := fx_bd h
        refine ds_gfr (idx := 79) (ci := 10) (j := 7) (p := 46) (by decide +kernel) rfl (by decide +kernel) z17 w19 ?_
        refine ds_iload_n (k := 1) (p := 47) (by decide +kernel) rfl rfl ?_
        obtain ⟨z20, h⟩ := fx_gd h
        obtain ⟨z21, h⟩ := fx_gd h
        obtain ⟨v22, w23, h⟩ := fx_bd h
        refine ds_aaload (t := 6) (p := 48) (by decide +kernel) rfl (by decide +kernel) z20 z21 w23 ?_
        refine ds_iload (k := 5) (p := 50) (by decide +kernel) rfl rfl ?_
        obtain ⟨z24, h⟩ := fx_gd h
        obtain ⟨z25, h⟩ := fx_gd h
        refine ds_iaload (p := 51) (by decide +kernel) rfl z24 z25 ?_
        obtain ⟨z26, h⟩ := fx_gd h
        refine ds_i2l (p := 52) (c := Int64.ofInt (q13.2.2.I v22 ((x5).toNat))) (by decide +kernel) rfl (ga_i2l rfl z26) ?_
        exact de_248_52 hz hd ih _ _ _ _ _ _ _ _ _ _ _ _ h
      · rw [if_neg c16] at h
        refine ds_if_ne_f (off := 7) (t := 42) (p := 38) (by decide +kernel) (by decide +kernel) rfl (fun q => c16 ((gc_ne rfl rfl z15 (by decide)).mp q)) ?_
        refine ds_lconst (n := 0) (p := 39) (by decide +kernel) rfl dl_0 ?_
        refine ds_goto (off := 13) (p := 52) (by decide +kernel) (by decide +kernel) ?_
        exact de_248_52 hz hd ih _ _ _ _ _ _ _ _ _ _ _ _ h
def dm_248 (L : Nat) (xs : Nat → Int32) (x0 : Nat) (x1 : Int) (s : gx_S) (δ : dS) : Option (Nat × DS) :=
  if 0 ≤ (8 : Int) ∧ (8 : Int) ≤ 60000000 then (
  (some (δ.al 1 (8 : Int).toNat)).bind fun t2 =>
  (some (t2.al 0 (8 : Int).toNat)).bind fun t4 =>
  dm_248_16 L xs 100000 x0 x1 δ.n t2.n 0 0 s t4) else none
theorem de_248 {z : iv_Z} {L : Nat} {xs : Nat → Int32} (hz : dZ z L xs) {d : Nat} (hd : 2 ≤ d) {x0 : Nat} {x1 : Int} {s : gx_S} {δ : dS} {q : Nat × DS} (h : dm_248 L xs x0 x1 s δ = some q) : dE z 248 d 0 [some (.ref x0), some (.int (Int32.ofInt x1)), none, none, none, none, none] [] (s, δ) (some (.ref q.1)) q.2 := by
  unfold dm_248 at h
  refine ds_bipush (n := 8) (p := 2) (by decide +kernel) rfl dkb_8 ?_
  obtain ⟨z1, h⟩ := fx_gd h
  obtain ⟨t2, w3, h⟩ := fx_bd h
  refine ds_newarray (a := .long) (t := 1) (p := 4) (by decide +kernel) rfl (by decide +kernel) (by decide) z1 ?_
  rw [Option.some.inj w3]
  refine ds_astore_n (k := 2) (p := 5) (M := 7) (al' := [some (.ref x0), some (.int (Int32.ofInt x1)), some (.ref δ.n), none, none, none, none]) (by decide +kernel) rfl mx_248 rfl rfl ?_
  refine ds_bipush (n := 8) (p := 7) (by decide +kernel) rfl dkb_8 ?_
  obtain ⟨t4, w5, h⟩ := fx_bd h
  refine ds_newarray (a := .int) (t := 0) (p := 9) (by decide +kernel) rfl (by decide +kernel) (by decide) z1 ?_
  rw [Option.some.inj w5]
  refine ds_astore_n (k := 3) (p := 10) (M := 7) (al' := [some (.ref x0), some (.int (Int32.ofInt x1)), some (.ref δ.n), some (.ref t2.n), none, none, none]) (by decide +kernel) rfl mx_248 rfl rfl ?_
  refine ds_iconst (n := 0) (p := 11) (by decide +kernel) rfl rfl ?_
  refine ds_istore (k := 4) (p := 13) (M := 7) (al' := [some (.ref x0), some (.int (Int32.ofInt x1)), some (.ref δ.n), some (.ref t2.n), some (.int (Int32.ofInt 0)), none, none]) (by decide +kernel) rfl mx_248 rfl rfl ?_
  refine ds_iconst (n := 0) (p := 14) (by decide +kernel) rfl rfl ?_
  refine ds_istore (k := 5) (p := 16) (M := 7) (al' := [some (.ref x0), some (.int (Int32.ofInt x1)), some (.ref δ.n), some (.ref t2.n), some (.int (Int32.ofInt 0)), some (.int (Int32.ofInt 0)), none]) (by decide +kernel) rfl mx_248 rfl rfl ?_
  exact de_248_16 hz hd 100000 _ _ _ _ _ _ _ _ _ h
/-! ZoneSharesLaw.aside(LZoneSharesLaw$Map;I)J d -/
theorem mx_249 : iv_mx 249 = 2 := by decide +kernel
theorem rt_249 : iv_rt 249 = some .long := by decide +kernel
def dm_249_19 (L : Nat) (xs : Nat → Int32) (x0 : Nat) (x1 : Int) (s : gx_S) (δ : dS) : Option (Int × DS) :=
  (dm_246 L xs x0 x1 s δ).bind fun q1 =>
  if (-2147483648 ≤ q1.1 ∧ q1.1 ≤ 2147483647) then (
  some (q1.1, q1.2.1, q1.2.2)) else none
theorem de_249_19 {z : iv_Z} {L : Nat} {xs : Nat → Int32} (hz : dZ z L xs) {d : Nat} (hd : 2 ≤ d) (x0 : Nat) (x1 : Int) (s : gx_S) (δ : dS) (q : Int × DS) (h : dm_249_19 L xs  x0 x1 s δ = some q) : dE z 249 d 19 [some (.ref x0), some (.int (Int32.ofInt x1))] [] (s, δ) (some (.long (Int64.ofInt q.1))) q.2 := by
  unfold dm_249_19 at h
  refine ds_aload_n (k := 0) (p := 20) (by decide +kernel) rfl rfl ?_
  refine ds_iload_n (k := 1) (p := 21) (by decide +kernel) rfl rfl ?_
  obtain ⟨q1, w2, h⟩ := fx_bd h
  refine ds_callS (idx := 122) (mj := 246) (na := 2) (mx := 4) (p := 24) (args := [.ref x0, .int (Int32.ofInt x1)]) (rest := []) (al2 := [some (.ref x0), some (.int (Int32.ofInt x1)), none, none]) (S2 := q1.2) (by decide +kernel) rfl (by decide +kernel) rfl rfl rfl rfl rfl rfl (by omega) (fun d' hd' => de_246 hz (by omega) w2) rfl ?_
  obtain ⟨z3, h⟩ := fx_gd h
  refine ds_i2l (p := 25) (c := Int64.ofInt q1.1) (by decide +kernel) rfl (ga_i2l rfl z3) ?_
  have h := Option.some.inj h
  subst h
  exact ds_lret (by decide +kernel) rt_249
def dm_249 (L : Nat) (xs : Nat → Int32) (x0 : Nat) (x1 : Int) (s : gx_S) (δ : dS) : Option (Int × DS) :=
  if dO δ x0 10 then (
  if (-2147483648 ≤ (δ.I x0 3) ∧ (δ.I x0 3) ≤ 2147483647) then (
  if ¬ (δ.I x0 3) = 1 then (
    dm_249_19 L xs x0 x1 s δ) else (
    (dm_247 L xs x0 s δ).bind fun q4 =>
    if (-2147483648 ≤ q4.1 ∧ q4.1 ≤ 2147483647) then (
    if q4.1 = 0 then (
      dm_249_19 L xs x0 x1 q4.2.1 q4.2.2) else (
      some (0, q4.2.1, q4.2.2))) else none)) else none) else none
theorem de_249 {z : iv_Z} {L : Nat} {xs : Nat → Int32} (hz : dZ z L xs) {d : Nat} (hd : 2 ≤ d) {x0 : Nat} {x1 : Int} {s : gx_S} {δ : dS} {q : Int × DS} (h : dm_249 L xs x0 x1 s δ = some q) : dE z 249 d 0 [some (.ref x0), some (.int (Int32.ofInt x1))] [] (s, δ) (some (.long (Int64.ofInt q.1))) q.2 := by
  unfold dm_249 at h
  refine ds_aload_n (k := 0) (p := 1) (by decide +kernel) rfl rfl ?_
  obtain ⟨z1, h⟩ := fx_gd h
  refine ds_gfi (idx := 103) (ci := 10) (j := 3) (p := 4) (by decide +kernel) rfl (by decide +kernel) z1 ?_
  refine ds_iconst (n := 1) (p := 5) (by decide +kernel) rfl rfl ?_
  obtain ⟨z2, h⟩ := fx_gd h
  by_cases c3 : ¬ (δ.I x0 3) = 1
  · rw [if_pos c3] at h
    refine ds_icmp_ne_t (off := 14) (t := 19) (by decide +kernel) (by decide +kernel) ((gc_ne rfl rfl z2 (by decide)).mpr c3) ?_
    exact de_249_19 hz hd _ _ _ _ _ h
  · rw [if_neg c3] at h
    refine ds_icmp_ne_f (off := 14) (t := 19) (p := 8) (by decide +kernel) (by decide +kernel) rfl (fun q => c3 ((gc_ne rfl rfl z2 (by decide)).mp q)) ?_
    refine ds_aload_n (k := 0) (p := 9) (by decide +kernel) rfl rfl ?_
    obtain ⟨q4, w5, h⟩ := fx_bd h
    refine ds_callS (idx := 118) (mj := 247) (na := 1) (mx := 5) (p := 12) (args := [.ref x0]) (rest := []) (al2 := [some (.ref x0), none, none, none, none]) (S2 := q4.2) (by decide +kernel) rfl (by decide +kernel) rfl rfl rfl rfl rfl rfl (by omega) (fun d' hd' => de_247 hz (by omega) w5) rfl ?_
    obtain ⟨z6, h⟩ := fx_gd h
    by_cases c7 : q4.1 = 0
    · rw [if_pos c7] at h
      refine ds_if_eq_t (off := 7) (t := 19) (by decide +kernel) (by decide +kernel) ((gc_eq rfl rfl z6 (by decide)).mpr c7) ?_
      exact de_249_19 hz hd _ _ _ _ _ h
    · rw [if_neg c7] at h
      refine ds_if_eq_f (off := 7) (t := 19) (p := 15) (by decide +kernel) (by decide +kernel) rfl (fun q => c7 ((gc_eq rfl rfl z6 (by decide)).mp q)) ?_
      refine ds_lconst (n := 0) (p := 16) (by decide +kernel) rfl dl_0 ?_
      refine ds_goto (off := 9) (p := 25) (by decide +kernel) (by decide +kernel) ?_
      have h := Option.some.inj h
      subst h
      exact ds_lret (by decide +kernel) rt_249
/-! ZoneSharesLaw.parts(LZoneSharesLaw$Map;I)[[I d -/
theorem mx_250 : iv_mx 250 = 6 := by decide +kernel
def dm_250_38 (L : Nat) (xs : Nat → Int32) (k_11 : Nat → Int → Nat → Int → gx_S → dS → Option (Nat × DS)) : Nat → Nat → Int → Nat → Int → Int → Int → gx_S → dS → Option (Nat × DS)
  | 0, _, _, _, _, _, _, _, _ => none
  | n + 1, x0, x1, x2, x3, x4, x5, s, δ =>
    if (-2147483648 ≤ x5 ∧ x5 ≤ 2147483647) then (
    if 9 ≤ x5 then (
      k_11 x0 x1 x2 (x3 + 1) s δ) else (
      if dA δ 6 x2 then (
      if dI δ x2 x3 then (
      (δ.P x2 ((x3).toNat)).bind fun v5 =>
      (dm_244 L xs x0 x1 x3 x5 x4 s δ).bind fun q7 =>
      if dA q7.2.2 0 v5 then (
      if dI q7.2.2 v5 x5 then (
      (some (q7.2.2.w v5 ((x5).toNat) q7.1)).bind fun t11 =>
      dm_250_38 L xs k_11 n x0 x1 x2 x3 x4 (x5 + 1) q7.2.1 t11) else none) else none) else none) else none)) else none
theorem de_250_38 {z : iv_Z} {L : Nat} {xs : Nat → Int32} (hz : dZ z L xs) {d : Nat} (hd : 1 ≤ d) {k_11 : Nat → Int → Nat → Int → gx_S → dS → Option (Nat × DS)} (hk_11 : ∀ (x0 : Nat) (x1 : Int) (x2 : Nat) (x3 : Int) (o4 : Option Value) (o5 : Option Value) (s : gx_S) (δ : dS) (q : Nat × DS), k_11 x0 x1 x2 x3 s δ = some q → dE z 250 d 11 [some (.ref x0), some (.int (Int32.ofInt x1)), some (.ref x2), some (.int (Int32.ofInt x3)), o4, o5] [] (s, δ) (some (.ref q.1)) q.2) : ∀ (n : Nat) (x0 : Nat) (x1 : Int) (x2 : Nat) (x3 : Int) (x4 : Int) (x5 : Int) (s : gx_S) (δ : dS) (q : Nat × DS), dm_250_38 L xs k_11 n x0 x1 x2 x3 x4 x5 s δ = some q → dE z 250 d 38 [some (.ref x0), some (.int (Int32.ofInt x1)), some (.ref x2), some (.int (Int32.ofInt x3)), some (.int (Int32.ofInt x4)), some (.int (Int32.ofInt x5))] [] (s, δ) (some (.ref q.1)) q.2 := by
  intro n
  induction n with
  | zero =>
    intro x0 x1 x2 x3 x4 x5 s δ q h
    rw [dm_250_38] at h
    exact fx_no h
  | succ n ih =>
    intro x0 x1 x2 x3 x4 x5 s δ q h
    rw [dm_250_38] at h
    refine ds_iload (k := 5) (p := 40) (by decide +kernel) rfl rfl ?_
    refine ds_bipush (n := 9) (p := 42) (by decide +kernel) rfl dkb_9 ?_
    obtain ⟨z1, h⟩ := fx_gd h
    by_cases c2 : 9 ≤ x5
    · rw [if_pos c2] at h
      refine ds_icmp_ge_t (off := 25) (t := 67) (by decide +kernel) (by decide +kernel) ((gc_le rfl rfl (by decide) z1).mpr c2) ?_
      refine ds_iinc (k := 3) (n := 1) (p := 70) (M := 6) (y := Int32.ofInt (x3 + 1)) (al' := [some (.ref x0), some (.int (Int32.ofInt x1)), some (.ref x2), some (.int (Int32.ofInt (x3 + 1))), some (.int (Int32.ofInt x4)), some (.int (Int32.ofInt x5))]) (by decide +kernel) rfl rfl mx_250 rfl rfl (ga_add rfl rfl) rfl ?_
      refine ds_goto (off := -59) (p := 11) (by decide +kernel) (by decide +kernel) ?_
      exact hk_11 _ _ _ _ _ _ _ _ _ h
    · rw [if_neg c2] at h
      refine ds_icmp_ge_f (off := 25) (t := 67) (p := 45) (by decide +kernel) (by decide +kernel) rfl (fun q => c2 ((gc_le rfl rfl (by decide) z1).mp q)) ?_
      refine ds_aload_n (k := 2) (p := 46) (by decide +kernel) rfl rfl ?_
      refine ds_iload_n (k := 3) (p := 47) (by decide +kernel) rfl rfl ?_
      obtain ⟨z3, h⟩ := fx_gd h
      obtain ⟨z4, h⟩ := fx_gd h
      obtain ⟨v5, w6, h⟩ := fx_bd h
      refine ds_aaload (t := 6) (p := 48) (by decide +kernel) rfl (by decide +kernel) z3 z4 w6 ?_
      refine ds_iload (k := 5) (p := 50) (by decide +kernel) rfl rfl ?_
      refine ds_aload_n (k := 0) (p := 51) (by decide +kernel) rfl rfl ?_
      refine ds_iload_n (k := 1) (p := 52) (by decide +kernel) rfl rfl ?_
      refine ds_iload_n (k := 3) (p := 53) (by decide +kernel) rfl rfl ?_
      refine ds_iload (k := 5) (p := 55) (by decide +kernel) rfl rfl ?_
      refine ds_iload (k := 4) (p := 57) (by decide +kernel) rfl rfl ?_
      obtain ⟨q7, w8, h⟩ := fx_bd h
      refine ds_callS (idx := 130) (mj := 244) (na := 5) (mx := 7) (p := 60) (args := [.ref x0, .int (Int32.ofInt x1), .int (Int32.ofInt x3), .int (Int32.ofInt x5), .int (Int32.ofInt x4)]) (rest := [.int (Int32.ofInt x5), .ref v5]) (al2 := [some (.ref x0), some (.int (Int32.ofInt x1)), some (.int (Int32.ofInt x3)), some (.int (Int32.ofInt x5)), some (.int (Int32.ofInt x4)), none, none]) (S2 := q7.2) (by decide +kernel) rfl (by decide +kernel) rfl rfl rfl rfl rfl rfl (by omega) (fun d' hd' => de_244 hz (by omega) w8) rfl ?_
      obtain ⟨z9, h⟩ := fx_gd h
      obtain ⟨z10, h⟩ := fx_gd h
      obtain ⟨t11, w12, h⟩ := fx_bd h
      refine ds_iastore (p := 61) (by decide +kernel) rfl z9 z10 ?_
      rw [Option.some.inj w12]
      refine ds_iinc (k := 5) (n := 1) (p := 64) (M := 6) (y := Int32.ofInt (x5 + 1)) (al' := [some (.ref x0), some (.int (Int32.ofInt x1)), some (.ref x2), some (.int (Int32.ofInt x3)), some (.int (Int32.ofInt x4)), some (.int (Int32.ofInt (x5 + 1)))]) (by decide +kernel) rfl rfl mx_250 rfl rfl (ga_add rfl rfl) rfl ?_
      refine ds_goto (off := -26) (p := 38) (by decide +kernel) (by decide +kernel) ?_
      exact ih _ _ _ _ _ _ _ _ _ h
def dm_250_33 (L : Nat) (xs : Nat → Int32) (k_11 : Nat → Int → Nat → Int → gx_S → dS → Option (Nat × DS)) (x0 : Nat) (x1 : Int) (x2 : Nat) (x3 : Int) (s0 : Int) (s : gx_S) (δ : dS) : Option (Nat × DS) :=
  dm_250_38 L xs k_11 100000 x0 x1 x2 x3 s0 0 s δ
theorem de_250_33 {z : iv_Z} {L : Nat} {xs : Nat → Int32} (hz : dZ z L xs) {d : Nat} (hd : 1 ≤ d) {k_11 : Nat → Int → Nat → Int → gx_S → dS → Option (Nat × DS)} (hk_11 : ∀ (x0 : Nat) (x1 : Int) (x2 : Nat) (x3 : Int) (o4 : Option Value) (o5 : Option Value) (s : gx_S) (δ : dS) (q : Nat × DS), k_11 x0 x1 x2 x3 s δ = some q → dE z 250 d 11 [some (.ref x0), some (.int (Int32.ofInt x1)), some (.ref x2), some (.int (Int32.ofInt x3)), o4, o5] [] (s, δ) (some (.ref q.1)) q.2) (x0 : Nat) (x1 : Int) (x2 : Nat) (x3 : Int) (s0 : Int) (o4 : Option Value) (o5 : Option Value) (s : gx_S) (δ : dS) (q : Nat × DS) (h : dm_250_33 L xs k_11  x0 x1 x2 x3 s0 s δ = some q) : dE z 250 d 33 [some (.ref x0), some (.int (Int32.ofInt x1)), some (.ref x2), some (.int (Int32.ofInt x3)), o4, o5] [.int (Int32.ofInt s0)] (s, δ) (some (.ref q.1)) q.2 := by
  unfold dm_250_33 at h
  refine ds_istore (k := 4) (p := 35) (M := 6) (al' := [some (.ref x0), some (.int (Int32.ofInt x1)), some (.ref x2), some (.int (Int32.ofInt x3)), some (.int (Int32.ofInt s0)), o5]) (by decide +kernel) rfl mx_250 rfl rfl ?_
  refine ds_iconst (n := 0) (p := 36) (by decide +kernel) rfl rfl ?_
  refine ds_istore (k := 5) (p := 38) (M := 6) (al' := [some (.ref x0), some (.int (Int32.ofInt x1)), some (.ref x2), some (.int (Int32.ofInt x3)), some (.int (Int32.ofInt s0)), some (.int (Int32.ofInt 0))]) (by decide +kernel) rfl mx_250 rfl rfl ?_
  exact de_250_38 hz hd hk_11 100000 _ _ _ _ _ _ _ _ _ h
def dm_250_11 (L : Nat) (xs : Nat → Int32) : Nat → Nat → Int → Nat → Int → gx_S → dS → Option (Nat × DS)
  | 0, _, _, _, _, _, _ => none
  | n + 1, x0, x1, x2, x3, s, δ =>
    if (-2147483648 ≤ x3 ∧ x3 ≤ 2147483647) then (
    if 8 ≤ x3 then (
      some (x2, s, δ)) else (
      (dm_244 L xs x0 x1 x3 (-1) 0 s δ).bind fun q3 =>
      if (-2147483648 ≤ q3.1 ∧ q3.1 ≤ 2147483647) then (
      if ¬ q3.1 = 0 then (
        dm_250_33 L xs (dm_250_11 L xs n) x0 x1 x2 x3 0 q3.2.1 q3.2.2) else (
        dm_250_33 L xs (dm_250_11 L xs n) x0 x1 x2 x3 1 q3.2.1 q3.2.2)) else none)) else none
theorem de_250_11 {z : iv_Z} {L : Nat} {xs : Nat → Int32} (hz : dZ z L xs) {d : Nat} (hd : 1 ≤ d) : ∀ (n : Nat) (x0 : Nat) (x1 : Int) (x2 : Nat) (x3 : Int) (o4 : Option Value) (o5 : Option Value) (s : gx_S) (δ : dS) (q : Nat × DS), dm_250_11 L xs n x0 x1 x2 x3 s δ = some q → dE z 250 d 11 [some (.ref x0), some (.int (Int32.ofInt x1)), some (.ref x2), some (.int (Int32.ofInt x3)), o4, o5] [] (s, δ) (some (.ref q.1)) q.2 := by
  intro n
  induction n with
  | zero =>
    intro x0 x1 x2 x3 o4 o5 s δ q h
    rw [dm_250_11] at h
    exact fx_no h
  | succ n ih =>
    intro x0 x1 x2 x3 o4 o5 s δ q h
    rw [dm_250_11] at h
    refine ds_iload_n (k := 3) (p := 12) (by decide +kernel) rfl rfl ?_
    refine ds_bipush (n := 8) (p := 14) (by decide +kernel) rfl dkb_8 ?_
    obtain ⟨z1, h⟩ := fx_gd h
    by_cases c2 : 8 ≤ x3
    · rw [if_pos c2] at h
      refine ds_icmp_ge_t (off := 59) (t := 73) (by decide +kernel) (by decide +kernel) ((gc_le rfl rfl (by decide) z1).mpr c2) ?_
      refine ds_aload_n (k := 2) (p := 74) (by decide +kernel) rfl rfl ?_
      have h := Option.some.inj h
      subst h
      exact ds_aret (by decide +kernel) (by decide +kernel)
    · rw [if_neg c2] at h
      refine ds_icmp_ge_f (off := 59) (t := 73) (p := 17) (by decide +kernel) (by decide +kernel) rfl (fun q => c2 ((gc_le rfl rfl (by decide) z1).mp q)) ?_
      refine ds_aload_n (k := 0) (p := 18) (by decide +kernel) rfl rfl ?_
      refine ds_iload_n (k := 1) (p := 19) (by decide +kernel) rfl rfl ?_
      refine ds_iload_n (k := 3) (p := 20) (by decide +kernel) rfl rfl ?_
      refine ds_iconst (n := -1) (p := 21) (by decide +kernel) rfl rfl ?_
      refine ds_iconst (n := 0) (p := 22) (by decide +kernel) rfl rfl ?_
      obtain ⟨q3, w4, h⟩ := fx_bd h
      refine ds_callS (idx := 130) (mj := 244) (na := 5) (mx := 7) (p := 25) (args := [.ref x0, .int (Int32.ofInt x1), .int (Int32.ofInt x3), .int (Int32.ofInt (-1)), .int (Int32.ofInt 0)]) (rest := []) (al2 := [some (.ref x0), some (.int (Int32.ofInt x1)), some (.int (Int32.ofInt x3)), some (.int (Int32.ofInt (-1))), some (.int (Int32.ofInt 0)), none, none]) (S2 := q3.2) (by decide +kernel) rfl (by decide +kernel) rfl rfl rfl rfl rfl rfl (by omega) (fun d' hd' => de_244 hz (by omega) w4) rfl ?_
      obtain ⟨z5, h⟩ := fx_gd h
      by_cases c6 : ¬ q3.1 = 0
      · rw [if_pos c6] at h
        refine ds_if_ne_t (off := 7) (t := 32) (by decide +kernel) (by decide +kernel) ((gc_ne rfl rfl z5 (by decide)).mpr c6) ?_
        refine ds_iconst (n := 0) (p := 33) (by decide +kernel) rfl rfl ?_
        exact de_250_33 hz hd ih _ _ _ _ _ _ _ _ _ _ h
      · rw [if_neg c6] at h
        refine ds_if_ne_f (off := 7) (t := 32) (p := 28) (by decide +kernel) (by decide +kernel) rfl (fun q => c6 ((gc_ne rfl rfl z5 (by decide)).mp q)) ?_
        refine ds_iconst (n := 1) (p := 29) (by decide +kernel) rfl rfl ?_
        refine ds_goto (off := 4) (p := 33) (by decide +kernel) (by decide +kernel) ?_
        exact de_250_33 hz hd ih _ _ _ _ _ _ _ _ _ _ h
def dm_250 (L : Nat) (xs : Nat → Int32) (x0 : Nat) (x1 : Int) (s : gx_S) (δ : dS) : Option (Nat × DS) :=
  (some (δ.mu (8 : Int).toNat (9 : Int).toNat)).bind fun t1 =>
  dm_250_11 L xs 100000 x0 x1 δ.n 0 s t1
theorem de_250 {z : iv_Z} {L : Nat} {xs : Nat → Int32} (hz : dZ z L xs) {d : Nat} (hd : 1 ≤ d) {x0 : Nat} {x1 : Int} {s : gx_S} {δ : dS} {q : Nat × DS} (h : dm_250 L xs x0 x1 s δ = some q) : dE z 250 d 0 [some (.ref x0), some (.int (Int32.ofInt x1)), none, none, none, none] [] (s, δ) (some (.ref q.1)) q.2 := by
  unfold dm_250 at h
  refine ds_bipush (n := 8) (p := 2) (by decide +kernel) rfl dkb_8 ?_
  refine ds_bipush (n := 9) (p := 4) (by decide +kernel) rfl dkb_9 ?_
  obtain ⟨t1, w2, h⟩ := fx_bd h
  refine ds_mna (idx := 129) (n := 8) (k := 9) (p := 8) (by decide +kernel) rfl (by decide +kernel) (by decide) (by decide) ?_
  rw [Option.some.inj w2]
  refine ds_astore_n (k := 2) (p := 9) (M := 6) (al' := [some (.ref x0), some (.int (Int32.ofInt x1)), some (.ref δ.n), none, none, none]) (by decide +kernel) rfl mx_250 rfl rfl ?_
  refine ds_iconst (n := 0) (p := 10) (by decide +kernel) rfl rfl ?_
  refine ds_istore_n (k := 3) (p := 11) (M := 6) (al' := [some (.ref x0), some (.int (Int32.ofInt x1)), some (.ref δ.n), some (.int (Int32.ofInt 0)), none, none]) (by decide +kernel) rfl mx_250 rfl rfl ?_
  exact de_250_11 hz hd 100000 _ _ _ _ _ _ _ _ _ h
/-! ZoneSharesLaw.isMoved(LZoneShares;LZoneSharesLaw$Map;I)Z c d -/
theorem mx_254 : iv_mx 254 = 23 := by decide +kernel
theorem rt_254 : iv_rt 254 = some .boolean := by decide +kernel
def dm_254_786 (L : Nat) (xs : Nat → Int32) (k_515 : Nat → Int → Nat → Nat → Int → Int → Int → gx_S → dS → Option (Int × DS)) (x1 : Nat) (x2 : Int) (x3 : Nat) (x4 : Nat) (x5 : Int) (x7 : Int) (x9 : Int) (x16 : Int) (s : gx_S) (δ : dS) : Option (Int × DS) :=
  k_515 x1 x2 x3 x4 x5 (x7 + x16) (x9 + 1) s δ
theorem de_254_786 {z : iv_Z} {L : Nat} {xs : Nat → Int32} (hz : dZ z L xs) {d : Nat} (hd : 102 ≤ d) {k_515 : Nat → Int → Nat → Nat → Int → Int → Int → gx_S → dS → Option (Int × DS)} (hk_515 : ∀ (x1 : Nat) (x2 : Int) (x3 : Nat) (x4 : Nat) (x5 : Int) (x7 : Int) (x9 : Int) (o10 : Option Value) (o12 : Option Value) (o14 : Option Value) (o15 : Option Value) (o16 : Option Value) (o18 : Option Value) (o20 : Option Value) (o21 : Option Value) (s : gx_S) (δ : dS) (q : Int × DS), k_515 x1 x2 x3 x4 x5 x7 x9 s δ = some q → dE z 254 d 515 [some (.ref 0), some (.ref x1), some (.int (Int32.ofInt x2)), some (.ref x3), some (.ref x4), some (.long (Int64.ofInt x5)), none, some (.long (Int64.ofInt x7)), none, some (.int (Int32.ofInt x9)), o10, none, o12, none, o14, o15, o16, none, o18, none, o20, o21, none] [] (s, δ) (some (.int (Int32.ofInt q.1))) q.2) (x1 : Nat) (x2 : Int) (x3 : Nat) (x4 : Nat) (x5 : Int) (x7 : Int) (x9 : Int) (x16 : Int) (o10 : Option Value) (o12 : Option Value) (o14 : Option Value) (o18 : Option Value) (o20 : Option Value) (o21 : Option Value) (s : gx_S) (δ : dS) (q : Int × DS) (h : dm_254_786 L xs k_515  x1 x2 x3 x4 x5 x7 x9 x16 s δ = some q) : dE z 254 d 786 [some (.ref 0), some (.ref x1), some (.int (Int32.ofInt x2)), some (.ref x3), some (.ref x4), some (.long (Int64.ofInt x5)), none, some (.long (Int64.ofInt x7)), none, some (.int (Int32.ofInt x9)), o10, none, o12, none, o14, none, some (.long (Int64.ofInt x16)), none, o18, none, o20, o21, none] [] (s, δ) (some (.int (Int32.ofInt q.1))) q.2 := by
  unfold dm_254_786 at h
  refine ds_lload (k := 7) (p := 788) (by decide +kernel) rfl rfl ?_
  refine ds_lload (k := 16) (p := 790) (by decide +kernel) rfl rfl ?_
  refine ds_ladd (p := 791) (c := Int64.ofInt (x7 + x16)) (by decide +kernel) rfl (gal_add rfl rfl) ?_
  refine ds_lstore (k := 7) (p := 793) (M := 23) (al' := [some (.ref 0), some (.ref x1), some (.int (Int32.ofInt x2)), some (.ref x3), some (.ref x4), some (.long (Int64.ofInt x5)), none, some (.long (Int64.ofInt (x7 + x16))), none, some (.int (Int32.ofInt x9)), o10, none, o12, none, o14, none, some (.long (Int64.ofInt x16)), none, o18, none, o20, o21, none]) (by decide +kernel) rfl mx_254 rfl rfl ?_
  refine ds_iinc (k := 9) (n := 1) (p := 796) (M := 23) (y := Int32.ofInt (x9 + 1)) (al' := [some (.ref 0), some (.ref x1), some (.int (Int32.ofInt x2)), some (.ref x3), some (.ref x4), some (.long (Int64.ofInt x5)), none, some (.long (Int64.ofInt (x7 + x16))), none, some (.int (Int32.ofInt (x9 + 1))), o10, none, o12, none, o14, none, some (.long (Int64.ofInt x16)), none, o18, none, o20, o21, none]) (by decide +kernel) rfl rfl mx_254 rfl rfl (ga_add rfl rfl) rfl ?_
  refine ds_goto (off := -281) (p := 515) (by decide +kernel) (by decide +kernel) ?_
  exact hk_515 _ _ _ _ _ _ _ _ _ _ _ _ _ _ _ _ _ _ h
def dm_254_654 (L : Nat) (xs : Nat → Int32) (k_537 : Nat → Int → Nat → Nat → Int → Int → Int → Int → Int → Int → Int → Int → gx_S → dS → Option (Int × DS)) (x1 : Nat) (x2 : Int) (x3 : Nat) (x4 : Nat) (x5 : Int) (x7 : Int) (x9 : Int) (x10 : Int) (x12 : Int) (x14 : Int) (x16 : Int) (x18 : Int) (s : gx_S) (δ : dS) : Option (Int × DS) :=
  k_537 x1 x2 x3 x4 x5 x7 x9 x10 x12 x14 x16 (x18 + 1) s δ
theorem de_254_654 {z : iv_Z} {L : Nat} {xs : Nat → Int32} (hz : dZ z L xs) {d : Nat} (hd : 102 ≤ d) {k_537 : Nat → Int → Nat → Nat → Int → Int → Int → Int → Int → Int → Int → Int → gx_S → dS → Option (Int × DS)} (hk_537 : ∀ (x1 : Nat) (x2 : Int) (x3 : Nat) (x4 : Nat) (x5 : Int) (x7 : Int) (x9 : Int) (x10 : Int) (x12 : Int) (x14 : Int) (x16 : Int) (x18 : Int) (o19 : Option Value) (o20 : Option Value) (o21 : Option Value) (s : gx_S) (δ : dS) (q : Int × DS), k_537 x1 x2 x3 x4 x5 x7 x9 x10 x12 x14 x16 x18 s δ = some q → dE z 254 d 537 [some (.ref 0), some (.ref x1), some (.int (Int32.ofInt x2)), some (.ref x3), some (.ref x4), some (.long (Int64.ofInt x5)), none, some (.long (Int64.ofInt x7)), none, some (.int (Int32.ofInt x9)), some (.long (Int64.ofInt x10)), none, some (.long (Int64.ofInt x12)), none, some (.long (Int64.ofInt x14)), none, some (.long (Int64.ofInt x16)), none, some (.int (Int32.ofInt x18)), o19, o20, o21, none] [] (s, δ) (some (.int (Int32.ofInt q.1))) q.2) (x1 : Nat) (x2 : Int) (x3 : Nat) (x4 : Nat) (x5 : Int) (x7 : Int) (x9 : Int) (x10 : Int) (x12 : Int) (x14 : Int) (x16 : Int) (x18 : Int) (o19 : Option Value) (o21 : Option Value) (s : gx_S) (δ : dS) (q : Int × DS) (h : dm_254_654 L xs k_537  x1 x2 x3 x4 x5 x7 x9 x10 x12 x14 x16 x18 s δ = some q) : dE z 254 d 654 [some (.ref 0), some (.ref x1), some (.int (Int32.ofInt x2)), some (.ref x3), some (.ref x4), some (.long (Int64.ofInt x5)), none, some (.long (Int64.ofInt x7)), none, some (.int (Int32.ofInt x9)), some (.long (Int64.ofInt x10)), none, some (.long (Int64.ofInt x12)), none, some (.long (Int64.ofInt x14)), none, some (.long (Int64.ofInt x16)), none, some (.int (Int32.ofInt x18)), o19, none, o21, none] [] (s, δ) (some (.int (Int32.ofInt q.1))) q.2 := by
  unfold dm_254_654 at h
  refine ds_iinc (k := 18) (n := 1) (p := 657) (M := 23) (y := Int32.ofInt (x18 + 1)) (al' := [some (.ref 0), some (.ref x1), some (.int (Int32.ofInt x2)), some (.ref x3), some (.ref x4), some (.long (Int64.ofInt x5)), none, some (.long (Int64.ofInt x7)), none, some (.int (Int32.ofInt x9)), some (.long (Int64.ofInt x10)), none, some (.long (Int64.ofInt x12)), none, some (.long (Int64.ofInt x14)), none, some (.long (Int64.ofInt x16)), none, some (.int (Int32.ofInt (x18 + 1))), o19, none, o21, none]) (by decide +kernel) rfl rfl mx_254 rfl rfl (ga_add rfl rfl) rfl ?_
  refine ds_goto (off := -120) (p := 537) (by decide +kernel) (by decide +kernel) ?_
  exact hk_537 _ _ _ _ _ _ _ _ _ _ _ _ _ _ _ _ _ _ h
def dm_254_537 (L : Nat) (xs : Nat → Int32) (k_515 : Nat → Int → Nat → Nat → Int → Int → Int → gx_S → dS → Option (Int × DS)) : Nat → Nat → Int → Nat → Nat → Int → Int → Int → Int → Int → Int → Int → Int → gx_S → dS → Option (Int × DS)
  | 0, _, _, _, _, _, _, _, _, _, _, _, _, _, _ => none
  | n + 1, x1, x2, x3, x4, x5, x7, x9, x10, x12, x14, x16, x18, s, δ =>
    if (-2147483648 ≤ x18 ∧ x18 ≤ 2147483647) then (
    if 8 ≤ x18 then (
      if 0 ≤ x10 ∧ x10 ≤ 9223372036854775807 ∧ 0 < x12 ∧ x12 ≤ 9223372036854775807 then (
      (dm_251 L xs (x10 % x12) x12 s δ).bind fun q4 =>
      (gm_100 x2 x9 0 q4.2.1).bind fun q6 =>
      if (-9223372036854775808 ≤ q6.1 ∧ q6.1 ≤ 9223372036854775807) then (
      if (-9223372036854775808 ≤ (x14 + (x10 / x12)) ∧ (x14 + (x10 / x12)) ≤ 9223372036854775807) then (
      if ¬ q6.1 = (x14 + (x10 / x12)) then (
        some (0, q6.2, q4.2.2)) else (
        (gm_100 x2 x9 1 q6.2).bind fun q11 =>
        if 0 ≤ (x10 % x12) ∧ (x10 % x12) ≤ 9223372036854775807 ∧ 0 < q4.1 ∧ q4.1 ≤ 9223372036854775807 then (
        if (-9223372036854775808 ≤ q11.1 ∧ q11.1 ≤ 9223372036854775807) then (
        if (-9223372036854775808 ≤ ((x10 % x12) / q4.1) ∧ ((x10 % x12) / q4.1) ≤ 9223372036854775807) then (
        if ¬ q11.1 = ((x10 % x12) / q4.1) then (
          some (0, q11.2, q4.2.2)) else (
          (gm_100 x2 x9 2 q11.2).bind fun q17 =>
          if 0 ≤ x12 ∧ x12 ≤ 9223372036854775807 ∧ 0 < q4.1 ∧ q4.1 ≤ 9223372036854775807 then (
          if (-9223372036854775808 ≤ q17.1 ∧ q17.1 ≤ 9223372036854775807) then (
          if (-9223372036854775808 ≤ (x12 / q4.1) ∧ (x12 / q4.1) ≤ 9223372036854775807) then (
          if ¬ q17.1 = (x12 / q4.1) then (
            some (0, q17.2, q4.2.2)) else (
            (gm_99 x2 (-1) x9 q17.2).bind fun q23 =>
            if (-2147483648 ≤ q23.1 ∧ q23.1 ≤ 2147483647) then (
            if (-9223372036854775808 ≤ q23.1 ∧ q23.1 ≤ 9223372036854775807) then (
            if (-9223372036854775808 ≤ x16 ∧ x16 ≤ 9223372036854775807) then (
            if q23.1 = x16 then (
              if dO q4.2.2 x1 10 then (
              if (-2147483648 ≤ (q4.2.2.I x1 2) ∧ (q4.2.2.I x1 2) ≤ 2147483647) then (
              if ¬ (q4.2.2.I x1 2) = 1 then (
                dm_254_786 L xs k_515 x1 x2 x3 x4 x5 x7 x9 x16 q23.2 q4.2.2) else (
                if x16 = (x14 + (x10 / x12)) then (
                  dm_254_786 L xs k_515 x1 x2 x3 x4 x5 x7 x9 x16 q23.2 q4.2.2) else (
                  if (-9223372036854775808 ≤ (x10 % x12) ∧ (x10 % x12) ≤ 9223372036854775807) then (
                  if (x10 % x12) = 0 then (
                    some (0, q23.2, q4.2.2)) else (
                    if (-9223372036854775808 ≤ ((x14 + (x10 / x12)) + 1) ∧ ((x14 + (x10 / x12)) + 1) ≤ 9223372036854775807) then (
                    if x16 = ((x14 + (x10 / x12)) + 1) then (
                      dm_254_786 L xs k_515 x1 x2 x3 x4 x5 x7 x9 x16 q23.2 q4.2.2) else (
                      some (0, q23.2, q4.2.2))) else none)) else none))) else none) else none) else (
              some (0, q23.2, q4.2.2))) else none) else none) else none)) else none) else none) else none)) else none) else none) else none)) else none) else none) else none) else (
      if dA δ 6 x4 then (
      if dI δ x4 x18 then (
      (δ.P x4 ((x18).toNat)).bind fun v39 =>
      (dm_253 L xs v39 s δ).bind fun q41 =>
      (gm_99 x2 x18 x9 q41.2.1).bind fun q43 =>
      if (-2147483648 ≤ q43.1 ∧ q43.1 ≤ 2147483647) then (
      if (-9223372036854775808 ≤ q41.1 ∧ q41.1 ≤ 9223372036854775807) then (
      if ¬ q41.1 = 0 then (
        if dA q41.2.2 1 x3 then (
        if dI q41.2.2 x3 x18 then (
        if dA q41.2.2 6 x4 then (
        if dI q41.2.2 x4 x18 then (
        (q41.2.2.P x4 ((x18).toNat)).bind fun v52 =>
        if dA q41.2.2 0 v52 then (
        if dI q41.2.2 v52 x9 then (
        if (-2147483648 ≤ (q41.2.2.I v52 ((x9).toNat)) ∧ (q41.2.2.I v52 ((x9).toNat)) ≤ 2147483647) then (
        if 0 ≤ ((q41.2.2.I x3 ((x18).toNat)) * (q41.2.2.I v52 ((x9).toNat))) ∧ ((q41.2.2.I x3 ((x18).toNat)) * (q41.2.2.I v52 ((x9).toNat))) ≤ 9223372036854775807 ∧ 0 < q41.1 ∧ q41.1 ≤ 9223372036854775807 then (
        (dm_251 L xs x12 q41.1 q43.2 q41.2.2).bind fun q58 =>
        if 0 ≤ q41.1 ∧ q41.1 ≤ 9223372036854775807 ∧ 0 < q58.1 ∧ q58.1 ≤ 9223372036854775807 then (
        if dA q58.2.2 1 x3 then (
        if dI q58.2.2 x3 x18 then (
        if dA q58.2.2 6 x4 then (
        if dI q58.2.2 x4 x18 then (
        (q58.2.2.P x4 ((x18).toNat)).bind fun v65 =>
        if dA q58.2.2 0 v65 then (
        if dI q58.2.2 v65 x9 then (
        if (-2147483648 ≤ (q58.2.2.I v65 ((x9).toNat)) ∧ (q58.2.2.I v65 ((x9).toNat)) ≤ 2147483647) then (
        if 0 ≤ ((q58.2.2.I x3 ((x18).toNat)) * (q58.2.2.I v65 ((x9).toNat))) ∧ ((q58.2.2.I x3 ((x18).toNat)) * (q58.2.2.I v65 ((x9).toNat))) ≤ 9223372036854775807 ∧ 0 < q41.1 ∧ q41.1 ≤ 9223372036854775807 then (
        if 0 ≤ x12 ∧ x12 ≤ 9223372036854775807 ∧ 0 < q58.1 ∧ q58.1 ≤ 9223372036854775807 then (
        dm_254_654 L xs (dm_254_537 L xs k_515 n) x1 x2 x3 x4 x5 x7 x9 ((x10 * (q41.1 / q58.1)) + ((((q58.2.2.I x3 ((x18).toNat)) * (q58.2.2.I v65 ((x9).toNat))) % q41.1) * (x12 / q58.1))) ((x12 / q58.1) * q41.1) (x14 + (((q41.2.2.I x3 ((x18).toNat)) * (q41.2.2.I v52 ((x9).toNat))) / q41.1)) (x16 + q43.1) x18 q58.2.1 q58.2.2) else none) else none) else none) else none) else none) else none) else none) else none) else none) else none) else none) else none) else none) else none) else none) else none) else none) else none) else (
        dm_254_654 L xs (dm_254_537 L xs k_515 n) x1 x2 x3 x4 x5 x7 x9 x10 x12 x14 (x16 + q43.1) x18 q43.2 q41.2.2)) else none) else none) else none) else none)) else none
theorem de_254_537 {z : iv_Z} {L : Nat} {xs : Nat → Int32} (hz : dZ z L xs) {d : Nat} (hd : 102 ≤ d) {k_515 : Nat → Int → Nat → Nat → Int → Int → Int → gx_S → dS → Option (Int × DS)} (hk_515 : ∀ (x1 : Nat) (x2 : Int) (x3 : Nat) (x4 : Nat) (x5 : Int) (x7 : Int) (x9 : Int) (o10 : Option Value) (o12 : Option Value) (o14 : Option Value) (o15 : Option Value) (o16 : Option Value) (o18 : Option Value) (o20 : Option Value) (o21 : Option Value) (s : gx_S) (δ : dS) (q : Int × DS), k_515 x1 x2 x3 x4 x5 x7 x9 s δ = some q → dE z 254 d 515 [some (.ref 0), some (.ref x1), some (.int (Int32.ofInt x2)), some (.ref x3), some (.ref x4), some (.long (Int64.ofInt x5)), none, some (.long (Int64.ofInt x7)), none, some (.int (Int32.ofInt x9)), o10, none, o12, none, o14, o15, o16, none, o18, none, o20, o21, none] [] (s, δ) (some (.int (Int32.ofInt q.1))) q.2) : ∀ (n : Nat) (x1 : Nat) (x2 : Int) (x3 : Nat) (x4 : Nat) (x5 : Int) (x7 : Int) (x9 : Int) (x10 : Int) (x12 : Int) (x14 : Int) (x16 : Int) (x18 : Int) (o19 : Option Value) (o20 : Option Value) (o21 : Option Value) (s : gx_S) (δ : dS) (q : Int × DS), dm_254_537 L xs k_515 n x1 x2 x3 x4 x5 x7 x9 x10 x12 x14 x16 x18 s δ = some q → dE z 254 d 537 [some (.ref 0), some (.ref x1), some (.int (Int32.ofInt x2)), some (.ref x3), some (.ref x4), some (.long (Int64.ofInt x5)), none, some (.long (Int64.ofInt x7)), none, some (.int (Int32.ofInt x9)), some (.long (Int64.ofInt x10)), none, some (.long (Int64.ofInt x12)), none, some (.long (Int64.ofInt x14)), none, some (.long (Int64.ofInt x16)), none, some (.int (Int32.ofInt x18)), o19, o20, o21, none] [] (s, δ) (some (.int (Int32.ofInt q.1))) q.2 := by
  intro n
  induction n with
  | zero =>
    intro x1 x2 x3 x4 x5 x7 x9 x10 x12 x14 x16 x18 o19 o20 o21 s δ q h
    rw [dm_254_537] at h
    exact fx_no h
  | succ n ih =>
    intro x1 x2 x3 x4 x5 x7 x9 x10 x12 x14 x16 x18 o19 o20 o21 s δ q h
    rw [dm_254_537] at h
    refine ds_iload (k := 18) (p := 539) (by decide +kernel) rfl rfl ?_
    refine ds_bipush (n := 8) (p := 541) (by decide +kernel) rfl dkb_8 ?_
    obtain ⟨z1, h⟩ := fx_gd h
    by_cases c2 : 8 ≤ x18
    · rw [if_pos c2] at h
      refine ds_icmp_ge_t (off := 119) (t := 660) (by decide +kernel) (by decide +kernel) ((gc_le rfl rfl (by decide) z1).mpr c2) ?_
      refine ds_lload (k := 14) (p := 662) (by decide +kernel) rfl rfl ?_
      refine ds_lload (k := 10) (p := 664) (by decide +kernel) rfl rfl ?_
      refine ds_lload (k := 12) (p := 666) (by decide +kernel) rfl rfl ?_
      obtain ⟨z3, h⟩ := fx_gd h
      refine ds_ldiv (p := 667) (c := Int64.ofInt (x10 / x12)) (by decide +kernel) rfl (gcl_nz rfl (x := x10) z3) (gal_div rfl rfl z3) ?_
      refine ds_ladd (p := 668) (c := Int64.ofInt (x14 + (x10 / x12))) (by decide +kernel) rfl (gal_add rfl rfl) ?_
      refine ds_lstore (k := 14) (p := 670) (M := 23) (al' := [some (.ref 0), some (.ref x1), some (.int (Int32.ofInt x2)), some (.ref x3), some (.ref x4), some (.long (Int64.ofInt x5)), none, some (.long (Int64.ofInt x7)), none, some (.int (Int32.ofInt x9)), some (.long (Int64.ofInt x10)), none, some (.long (Int64.ofInt x12)), none, some (.long (Int64.ofInt (x14 + (x10 / x12)))), none, some (.long (Int64.ofInt x16)), none, some (.int (Int32.ofInt x18)), o19, o20, o21, none]) (by decide +kernel) rfl mx_254 rfl rfl ?_
      refine ds_lload (k := 10) (p := 672) (by decide +kernel) rfl rfl ?_
      refine ds_lload (k := 12) (p := 674) (by decide +kernel) rfl rfl ?_
      refine ds_lrem (p := 675) (c := Int64.ofInt (x10 % x12)) (by decide +kernel) rfl (gcl_nz rfl (x := x10) z3) (gal_rem rfl rfl z3) ?_
      refine ds_lstore (k := 10) (p := 677) (M := 23) (al' := [some (.ref 0), some (.ref x1), some (.int (Int32.ofInt x2)), some (.ref x3), some (.ref x4), some (.long (Int64.ofInt x5)), none, some (.long (Int64.ofInt x7)), none, some (.int (Int32.ofInt x9)), some (.long (Int64.ofInt (x10 % x12))), none, some (.long (Int64.ofInt x12)), none, some (.long (Int64.ofInt (x14 + (x10 / x12)))), none, some (.long (Int64.ofInt x16)), none, some (.int (Int32.ofInt x18)), o19, o20, o21, none]) (by decide +kernel) rfl mx_254 rfl rfl ?_
      refine ds_lload (k := 10) (p := 679) (by decide +kernel) rfl rfl ?_
      refine ds_lload (k := 12) (p := 681) (by decide +kernel) rfl rfl ?_
      obtain ⟨q4, w5, h⟩ := fx_bd h
      refine ds_callS (idx := 134) (mj := 251) (na := 2) (mx := 4) (p := 684) (args := [.long (Int64.ofInt (x10 % x12)), .long (Int64.ofInt x12)]) (rest := []) (al2 := [some (.long (Int64.ofInt (x10 % x12))), none, some (.long (Int64.ofInt x12)), none]) (S2 := q4.2) (by decide +kernel) rfl (by decide +kernel) rfl rfl rfl rfl rfl rfl (by omega) (fun d' hd' => de_251 hz (by omega) w5) rfl ?_
      refine ds_lstore (k := 18) (p := 686) (M := 23) (al' := [some (.ref 0), some (.ref x1), some (.int (Int32.ofInt x2)), some (.ref x3), some (.ref x4), some (.long (Int64.ofInt x5)), none, some (.long (Int64.ofInt x7)), none, some (.int (Int32.ofInt x9)), some (.long (Int64.ofInt (x10 % x12))), none, some (.long (Int64.ofInt x12)), none, some (.long (Int64.ofInt (x14 + (x10 / x12)))), none, some (.long (Int64.ofInt x16)), none, some (.long (Int64.ofInt q4.1)), none, o20, o21, none]) (by decide +kernel) rfl mx_254 rfl rfl ?_
      refine ds_aload_n (k := 0) (p := 687) (by decide +kernel) rfl rfl ?_
      refine ds_iload_n (k := 2) (p := 688) (by decide +kernel) rfl rfl ?_
      refine ds_iload (k := 9) (p := 690) (by decide +kernel) rfl rfl ?_
      refine ds_iconst (n := 0) (p := 691) (by decide +kernel) rfl rfl ?_
      obtain ⟨q6, w7, h⟩ := fx_bd h
      refine ds_callV (idx := 170) (mj := 100) (ci := 9) (na := 3) (mx := 9) (p := 694) (args := [.ref 0, .int (Int32.ofInt x2), .int (Int32.ofInt x9), .int (Int32.ofInt 0)]) (rest := []) (al2 := [some (.ref 0), some (.int (Int32.ofInt x2)), some (.int (Int32.ofInt x9)), some (.int (Int32.ofInt 0)), none, none, none, none, none]) (S2 := (q6.2, q4.2.2)) (by decide +kernel) rfl (by decide +kernel) (Or.inl ⟨_, rfl, Or.inr fo_0⟩) rfl rfl rfl rfl rfl rfl (by omega) (fun d' hd' => dx_cls (fe_100 (by omega) (gf_100 rfl rfl rfl rfl w7))) rfl ?_
      refine ds_lload (k := 14) (p := 696) (by decide +kernel) rfl rfl ?_
      obtain ⟨z8, h⟩ := fx_gd h
      obtain ⟨z9, h⟩ := fx_gd h
      by_cases c10 : ¬ q6.1 = (x14 + (x10 / x12))
      · rw [if_pos c10] at h
        refine ds_lcmp_ne_t (off := 52) (t := 749) (by decide +kernel) (by decide +kernel) (by decide +kernel) ((gcl_ne rfl rfl z8 z9).mpr c10) ?_
        refine ds_iconst (n := 0) (p := 750) (by decide +kernel) rfl rfl ?_
        have h := Option.some.inj h
        subst h
        exact ds_iret (by decide +kernel) rt_254 (by decide +kernel)
      · rw [if_neg c10] at h
        refine ds_lcmp_ne_f (off := 52) (t := 749) (p := 700) (by decide +kernel) (by decide +kernel) (by decide +kernel) rfl (fun q => c10 ((gcl_ne rfl rfl z8 z9).mp q)) ?_
        refine ds_aload_n (k := 0) (p := 701) (by decide +kernel) rfl rfl ?_
        refine ds_iload_n (k := 2) (p := 702) (by decide +kernel) rfl rfl ?_
        refine ds_iload (k := 9) (p := 704) (by decide +kernel) rfl rfl ?_
        refine ds_iconst (n := 1) (p := 705) (by decide +kernel) rfl rfl ?_
        obtain ⟨q11, w12, h⟩ := fx_bd h
        refine ds_callV (idx := 170) (mj := 100) (ci := 9) (na := 3) (mx := 9) (p := 708) (args := [.ref 0, .int (Int32.ofInt x2), .int (Int32.ofInt x9), .int (Int32.ofInt 1)]) (rest := []) (al2 := [some (.ref 0), some (.int (Int32.ofInt x2)), some (.int (Int32.ofInt x9)), some (.int (Int32.ofInt 1)), none, none, none, none, none]) (S2 := (q11.2, q4.2.2)) (by decide +kernel) rfl (by decide +kernel) (Or.inl ⟨_, rfl, Or.inr fo_0⟩) rfl rfl rfl rfl rfl rfl (by omega) (fun d' hd' => dx_cls (fe_100 (by omega) (gf_100 rfl rfl rfl rfl w12))) rfl ?_
        refine ds_lload (k := 10) (p := 710) (by decide +kernel) rfl rfl ?_
        refine ds_lload (k := 18) (p := 712) (by decide +kernel) rfl rfl ?_
        obtain ⟨z13, h⟩ := fx_gd h
        refine ds_ldiv (p := 713) (c := Int64.ofInt ((x10 % x12) / q4.1)) (by decide +kernel) rfl (gcl_nz rfl (x := (x10 % x12)) z13) (gal_div rfl rfl z13) ?_
        obtain ⟨z14, h⟩ := fx_gd h
        obtain ⟨z15, h⟩ := fx_gd h
        by_cases c16 : ¬ q11.1 = ((x10 % x12) / q4.1)
        · rw [if_pos c16] at h
          refine ds_lcmp_ne_t (off := 35) (t := 749) (by decide +kernel) (by decide +kernel) (by decide +kernel) ((gcl_ne rfl rfl z14 z15).mpr c16) ?_
          refine ds_iconst (n := 0) (p := 750) (by decide +kernel) rfl rfl ?_
          have h := Option.some.inj h
          subst h
          exact ds_iret (by decide +kernel) rt_254 (by decide +kernel)
        · rw [if_neg c16] at h
          refine ds_lcmp_ne_f (off := 35) (t := 749) (p := 717) (by decide +kernel) (by decide +kernel) (by decide +kernel) rfl (fun q => c16 ((gcl_ne rfl rfl z14 z15).mp q)) ?_
          refine ds_aload_n (k := 0) (p := 718) (by decide +kernel) rfl rfl ?_
          refine ds_iload_n (k := 2) (p := 719) (by decide +kernel) rfl rfl ?_
          refine ds_iload (k := 9) (p := 721) (by decide +kernel) rfl rfl ?_
          refine ds_iconst (n := 2) (p := 722) (by decide +kernel) rfl rfl ?_
          obtain ⟨q17, w18, h⟩ := fx_bd h
          refine ds_callV (idx := 170) (mj := 100) (ci := 9) (na := 3) (mx := 9) (p := 725) (args := [.ref 0, .int (Int32.ofInt x2), .int (Int32.ofInt x9), .int (Int32.ofInt 2)]) (rest := []) (al2 := [some (.ref 0), some (.int (Int32.ofInt x2)), some (.int (Int32.ofInt x9)), some (.int (Int32.ofInt 2)), none, none, none, none, none]) (S2 := (q17.2, q4.2.2)) (by decide +kernel) rfl (by decide +kernel) (Or.inl ⟨_, rfl, Or.inr fo_0⟩) rfl rfl rfl rfl rfl rfl (by omega) (fun d' hd' => dx_cls (fe_100 (by omega) (gf_100 rfl rfl rfl rfl w18))) rfl ?_
          refine ds_lload (k := 12) (p := 727) (by decide +kernel) rfl rfl ?_
          refine ds_lload (k := 18) (p := 729) (by decide +kernel) rfl rfl ?_
          obtain ⟨z19, h⟩ := fx_gd h
          refine ds_ldiv (p := 730) (c := Int64.ofInt (x12 / q4.1)) (by decide +kernel) rfl (gcl_nz rfl (x := x12) z19) (gal_div rfl rfl z19) ?_
          obtain ⟨z20, h⟩ := fx_gd h
          obtain ⟨z21, h⟩ := fx_gd h
          by_cases c22 : ¬ q17.1 = (x12 / q4.1)
          · rw [if_pos c22] at h
            refine ds_lcmp_ne_t (off := 18) (t := 749) (by decide +kernel) (by decide +kernel) (by decide +kernel) ((gcl_ne rfl rfl z20 z21).mpr c22) ?_
            refine ds_iconst (n := 0) (p := 750) (by decide +kernel) rfl rfl ?_
            have h := Option.some.inj h
            subst h
            exact ds_iret (by decide +kernel) rt_254 (by decide +kernel)
          · rw [if_neg c22] at h
            refine ds_lcmp_ne_f (off := 18) (t := 749) (p := 734) (by decide +kernel) (by decide +kernel) (by decide +kernel) rfl (fun q => c22 ((gcl_ne rfl rfl z20 z21).mp q)) ?_
            refine ds_aload_n (k := 0) (p := 735) (by decide +kernel) rfl rfl ?_
            refine ds_iload_n (k := 2) (p := 736) (by decide +kernel) rfl rfl ?_
            refine ds_iconst (n := -1) (p := 737) (by decide +kernel) rfl rfl ?_
            refine ds_iload (k := 9) (p := 739) (by decide +kernel) rfl rfl ?_
            obtain ⟨q23, w24, h⟩ := fx_bd h
            refine ds_callV (idx := 163) (mj := 99) (ci := 9) (na := 3) (mx := 12) (p := 742) (args := [.ref 0, .int (Int32.ofInt x2), .int (Int32.ofInt (-1)), .int (Int32.ofInt x9)]) (rest := []) (al2 := [some (.ref 0), some (.int (Int32.ofInt x2)), some (.int (Int32.ofInt (-1))), some (.int (Int32.ofInt x9)), none, none, none, none, none, none, none, none]) (S2 := (q23.2, q4.2.2)) (by decide +kernel) rfl (by decide +kernel) (Or.inl ⟨_, rfl, Or.inr fo_0⟩) rfl rfl rfl rfl rfl rfl (by omega) (fun d' hd' => dx_cls (fe_99 (by omega) (gf_99 rfl rfl rfl rfl w24))) rfl ?_
            obtain ⟨z25, h⟩ := fx_gd h
            refine ds_i2l (p := 743) (c := Int64.ofInt q23.1) (by decide +kernel) rfl (ga_i2l rfl z25) ?_
            refine ds_lload (k := 16) (p := 745) (by decide +kernel) rfl rfl ?_
            obtain ⟨z26, h⟩ := fx_gd h
            obtain ⟨z27, h⟩ := fx_gd h
            by_cases c28 : q23.1 = x16
            · rw [if_pos c28] at h
              refine ds_lcmp_eq_t (off := 5) (t := 751) (by decide +kernel) (by decide +kernel) (by decide +kernel) ((gcl_eq rfl rfl z26 z27).mpr c28) ?_
              refine ds_aload_n (k := 1) (p := 752) (by decide +kernel) rfl rfl ?_
              obtain ⟨z29, h⟩ := fx_gd h
              refine ds_gfi (idx := 100) (ci := 10) (j := 2) (p := 755) (by decide +kernel) rfl (by decide +kernel) z29 ?_
              refine ds_iconst (n := 1) (p := 756) (by decide +kernel) rfl rfl ?_
              obtain ⟨z30, h⟩ := fx_gd h
              by_cases c31 : ¬ (q4.2.2.I x1 2) = 1
              · rw [if_pos c31] at h
                refine ds_icmp_ne_t (off := 30) (t := 786) (by decide +kernel) (by decide +kernel) ((gc_ne rfl rfl z30 (by decide)).mpr c31) ?_
                exact de_254_786 hz hd hk_515 _ _ _ _ _ _ _ _ _ _ _ _ _ _ _ _ _ h
              · rw [if_neg c31] at h
                refine ds_icmp_ne_f (off := 30) (t := 786) (p := 759) (by decide +kernel) (by decide +kernel) rfl (fun q => c31 ((gc_ne rfl rfl z30 (by decide)).mp q)) ?_
                refine ds_lload (k := 16) (p := 761) (by decide +kernel) rfl rfl ?_
                refine ds_lload (k := 14) (p := 763) (by decide +kernel) rfl rfl ?_
                by_cases c32 : x16 = (x14 + (x10 / x12))
                · rw [if_pos c32] at h
                  refine ds_lcmp_eq_t (off := 22) (t := 786) (by decide +kernel) (by decide +kernel) (by decide +kernel) ((gcl_eq rfl rfl z27 z9).mpr c32) ?_
                  exact de_254_786 hz hd hk_515 _ _ _ _ _ _ _ _ _ _ _ _ _ _ _ _ _ h
                · rw [if_neg c32] at h
                  refine ds_lcmp_eq_f (off := 22) (t := 786) (p := 767) (by decide +kernel) (by decide +kernel) (by decide +kernel) rfl (fun q => c32 ((gcl_eq rfl rfl z27 z9).mp q)) ?_
                  refine ds_lload (k := 10) (p := 769) (by decide +kernel) rfl rfl ?_
                  refine ds_lconst (n := 0) (p := 770) (by decide +kernel) rfl dl_0 ?_
                  obtain ⟨z33, h⟩ := fx_gd h
                  by_cases c34 : (x10 % x12) = 0
                  · rw [if_pos c34] at h
                    refine ds_lcmp_eq_t (off := 13) (t := 784) (by decide +kernel) (by decide +kernel) (by decide +kernel) ((gcl_eq rfl rfl z33 (by decide)).mpr c34) ?_
                    refine ds_iconst (n := 0) (p := 785) (by decide +kernel) rfl rfl ?_
                    have h := Option.some.inj h
                    subst h
                    exact ds_iret (by decide +kernel) rt_254 (by decide +kernel)
                  · rw [if_neg c34] at h
                    refine ds_lcmp_eq_f (off := 13) (t := 784) (p := 774) (by decide +kernel) (by decide +kernel) (by decide +kernel) rfl (fun q => c34 ((gcl_eq rfl rfl z33 (by decide)).mp q)) ?_
                    refine ds_lload (k := 16) (p := 776) (by decide +kernel) rfl rfl ?_
                    refine ds_lload (k := 14) (p := 778) (by decide +kernel) rfl rfl ?_
                    refine ds_lconst (n := 1) (p := 779) (by decide +kernel) rfl dl_1 ?_
                    refine ds_ladd (p := 780) (c := Int64.ofInt ((x14 + (x10 / x12)) + 1)) (by decide +kernel) rfl (gal_add rfl rfl) ?_
                    obtain ⟨z35, h⟩ := fx_gd h
                    by_cases c36 : x16 = ((x14 + (x10 / x12)) + 1)
                    · rw [if_pos c36] at h
                      refine ds_lcmp_eq_t (off := 5) (t := 786) (by decide +kernel) (by decide +kernel) (by decide +kernel) ((gcl_eq rfl rfl z27 z35).mpr c36) ?_
                      exact de_254_786 hz hd hk_515 _ _ _ _ _ _ _ _ _ _ _ _ _ _ _ _ _ h
                    · rw [if_neg c36] at h
                      refine ds_lcmp_eq_f (off := 5) (t := 786) (p := 784) (by decide +kernel) (by decide +kernel) (by decide +kernel) rfl (fun q => c36 ((gcl_eq rfl rfl z27 z35).mp q)) ?_
                      refine ds_iconst (n := 0) (p := 785) (by decide +kernel) rfl rfl ?_
                      have h := Option.some.inj h
                      subst h
                      exact ds_iret (by decide +kernel) rt_254 (by decide +kernel)
            · rw [if_neg c28] at h
              refine ds_lcmp_eq_f (off := 5) (t := 751) (p := 749) (by decide +kernel) (by decide +kernel) (by decide +kernel) rfl (fun q => c28 ((gcl_eq rfl rfl z26 z27).mp q)) ?_
              refine ds_iconst (n := 0) (p := 750) (by decide +kernel) rfl rfl ?_
              have h := Option.some.inj h
              subst h
              exact ds_iret (by decide +kernel) rt_254 (by decide +kernel)
    · rw [if_neg c2] at h
      refine ds_icmp_ge_f (off := 119) (t := 660) (p := 544) (by decide +kernel) (by decide +kernel) rfl (fun q => c2 ((gc_le rfl rfl (by decide) z1).mp q)) ?_
      refine ds_aload (k := 4) (p := 546) (by decide +kernel) rfl rfl ?_
      refine ds_iload (k := 18) (p := 548) (by decide +kernel) rfl rfl ?_
      obtain ⟨z37, h⟩ := fx_gd h
      obtain ⟨z38, h⟩ := fx_gd h
      obtain ⟨v39, w40, h⟩ := fx_bd h
      refine ds_aaload (t := 6) (p := 549) (by decide +kernel) rfl (by decide +kernel) z37 z38 w40 ?_
      obtain ⟨q41, w42, h⟩ := fx_bd h
      refine ds_callS (idx := 159) (mj := 253) (na := 1) (mx := 7) (p := 552) (args := [.ref v39]) (rest := []) (al2 := [some (.ref v39), none, none, none, none, none, none]) (S2 := q41.2) (by decide +kernel) rfl (by decide +kernel) rfl rfl rfl rfl rfl rfl (by omega) (fun d' hd' => de_253 hz (by omega) w42) rfl ?_
      refine ds_lstore (k := 19) (p := 554) (M := 23) (al' := [some (.ref 0), some (.ref x1), some (.int (Int32.ofInt x2)), some (.ref x3), some (.ref x4), some (.long (Int64.ofInt x5)), none, some (.long (Int64.ofInt x7)), none, some (.int (Int32.ofInt x9)), some (.long (Int64.ofInt x10)), none, some (.long (Int64.ofInt x12)), none, some (.long (Int64.ofInt x14)), none, some (.long (Int64.ofInt x16)), none, some (.int (Int32.ofInt x18)), some (.long (Int64.ofInt q41.1)), none, o21, none]) (by decide +kernel) rfl mx_254 rfl rfl ?_
      refine ds_lload (k := 16) (p := 556) (by decide +kernel) rfl rfl ?_
      refine ds_aload_n (k := 0) (p := 557) (by decide +kernel) rfl rfl ?_
      refine ds_iload_n (k := 2) (p := 558) (by decide +kernel) rfl rfl ?_
      refine ds_iload (k := 18) (p := 560) (by decide +kernel) rfl rfl ?_
      refine ds_iload (k := 9) (p := 562) (by decide +kernel) rfl rfl ?_
      obtain ⟨q43, w44, h⟩ := fx_bd h
      refine ds_callV (idx := 163) (mj := 99) (ci := 9) (na := 3) (mx := 12) (p := 565) (args := [.ref 0, .int (Int32.ofInt x2), .int (Int32.ofInt x18), .int (Int32.ofInt x9)]) (rest := [.long (Int64.ofInt x16)]) (al2 := [some (.ref 0), some (.int (Int32.ofInt x2)), some (.int (Int32.ofInt x18)), some (.int (Int32.ofInt x9)), none, none, none, none, none, none, none, none]) (S2 := (q43.2, q41.2.2)) (by decide +kernel) rfl (by decide +kernel) (Or.inl ⟨_, rfl, Or.inr fo_0⟩) rfl rfl rfl rfl rfl rfl (by omega) (fun d' hd' => dx_cls (fe_99 (by omega) (gf_99 rfl rfl rfl rfl w44))) rfl ?_
      obtain ⟨z45, h⟩ := fx_gd h
      refine ds_i2l (p := 566) (c := Int64.ofInt q43.1) (by decide +kernel) rfl (ga_i2l rfl z45) ?_
      refine ds_ladd (p := 567) (c := Int64.ofInt (x16 + q43.1)) (by decide +kernel) rfl (gal_add rfl rfl) ?_
      refine ds_lstore (k := 16) (p := 569) (M := 23) (al' := [some (.ref 0), some (.ref x1), some (.int (Int32.ofInt x2)), some (.ref x3), some (.ref x4), some (.long (Int64.ofInt x5)), none, some (.long (Int64.ofInt x7)), none, some (.int (Int32.ofInt x9)), some (.long (Int64.ofInt x10)), none, some (.long (Int64.ofInt x12)), none, some (.long (Int64.ofInt x14)), none, some (.long (Int64.ofInt (x16 + q43.1))), none, some (.int (Int32.ofInt x18)), some (.long (Int64.ofInt q41.1)), none, o21, none]) (by decide +kernel) rfl mx_254 rfl rfl ?_
      refine ds_lload (k := 19) (p := 571) (by decide +kernel) rfl rfl ?_
      refine ds_lconst (n := 0) (p := 572) (by decide +kernel) rfl dl_0 ?_
      obtain ⟨z46, h⟩ := fx_gd h
      by_cases c47 : ¬ q41.1 = 0
      · rw [if_pos c47] at h
        refine ds_lcmp_ne_t (off := 6) (t := 579) (by decide +kernel) (by decide +kernel) (by decide +kernel) ((gcl_ne rfl rfl z46 (by decide)).mpr c47) ?_
        refine ds_lload (k := 14) (p := 581) (by decide +kernel) rfl rfl ?_
        refine ds_aload_n (k := 3) (p := 582) (by decide +kernel) rfl rfl ?_
        refine ds_iload (k := 18) (p := 584) (by decide +kernel) rfl rfl ?_
        obtain ⟨z48, h⟩ := fx_gd h
        obtain ⟨z49, h⟩ := fx_gd h
        refine ds_laload (p := 585) (by decide +kernel) rfl z48 z49 ?_
        refine ds_aload (k := 4) (p := 587) (by decide +kernel) rfl rfl ?_
        refine ds_iload (k := 18) (p := 589) (by decide +kernel) rfl rfl ?_
        obtain ⟨z50, h⟩ := fx_gd h
        obtain ⟨z51, h⟩ := fx_gd h
        obtain ⟨v52, w53, h⟩ := fx_bd h
        refine ds_aaload (t := 6) (p := 590) (by decide +kernel) rfl (by decide +kernel) z50 z51 w53 ?_
        refine ds_iload (k := 9) (p := 592) (by decide +kernel) rfl rfl ?_
        obtain ⟨z54, h⟩ := fx_gd h
        obtain ⟨z55, h⟩ := fx_gd h
        refine ds_iaload (p := 593) (by decide +kernel) rfl z54 z55 ?_
        obtain ⟨z56, h⟩ := fx_gd h
        refine ds_i2l (p := 594) (c := Int64.ofInt (q41.2.2.I v52 ((x9).toNat))) (by decide +kernel) rfl (ga_i2l rfl z56) ?_
        refine ds_lmul (p := 595) (c := Int64.ofInt ((q41.2.2.I x3 ((x18).toNat)) * (q41.2.2.I v52 ((x9).toNat)))) (by decide +kernel) rfl (gal_mul rfl rfl) ?_
        refine ds_lload (k := 19) (p := 597) (by decide +kernel) rfl rfl ?_
        obtain ⟨z57, h⟩ := fx_gd h
        refine ds_ldiv (p := 598) (c := Int64.ofInt (((q41.2.2.I x3 ((x18).toNat)) * (q41.2.2.I v52 ((x9).toNat))) / q41.1)) (by decide +kernel) rfl (gcl_nz rfl (x := ((q41.2.2.I x3 ((x18).toNat)) * (q41.2.2.I v52 ((x9).toNat)))) z57) (gal_div rfl rfl z57) ?_
        refine ds_ladd (p := 599) (c := Int64.ofInt (x14 + (((q41.2.2.I x3 ((x18).toNat)) * (q41.2.2.I v52 ((x9).toNat))) / q41.1))) (by decide +kernel) rfl (gal_add rfl rfl) ?_
        refine ds_lstore (k := 14) (p := 601) (M := 23) (al' := [some (.ref 0), some (.ref x1), some (.int (Int32.ofInt x2)), some (.ref x3), some (.ref x4), some (.long (Int64.ofInt x5)), none, some (.long (Int64.ofInt x7)), none, some (.int (Int32.ofInt x9)), some (.long (Int64.ofInt x10)), none, some (.long (Int64.ofInt x12)), none, some (.long (Int64.ofInt (x14 + (((q41.2.2.I x3 ((x18).toNat)) * (q41.2.2.I v52 ((x9).toNat))) / q41.1)))), none, some (.long (Int64.ofInt (x16 + q43.1))), none, some (.int (Int32.ofInt x18)), some (.long (Int64.ofInt q41.1)), none, o21, none]) (by decide +kernel) rfl mx_254 rfl rfl ?_
        refine ds_lload (k := 12) (p := 603) (by decide +kernel) rfl rfl ?_
        refine ds_lload (k := 19) (p := 605) (by decide +kernel) rfl rfl ?_
        obtain ⟨q58, w59, h⟩ := fx_bd h
        refine ds_callS (idx := 134) (mj := 251) (na := 2) (mx := 4) (p := 608) (args := [.long (Int64.ofInt x12), .long (Int64.ofInt q41.1)]) (rest := []) (al2 := [some (.long (Int64.ofInt x12)), none, some (.long (Int64.ofInt q41.1)), none]) (S2 := q58.2) (by decide +kernel) rfl (by decide +kernel) rfl rfl rfl rfl rfl rfl (by omega) (fun d' hd' => de_251 hz (by omega) w59) rfl ?_
        refine ds_lstore (k := 21) (p := 610) (M := 23) (al' := [some (.ref 0), some (.ref x1), some (.int (Int32.ofInt x2)), some (.ref x3), some (.ref x4), some (.long (Int64.ofInt x5)), none, some (.long (Int64.ofInt x7)), none, some (.int (Int32.ofInt x9)), some (.long (Int64.ofInt x10)), none, some (.long (Int64.ofInt x12)), none, some (.long (Int64.ofInt (x14 + (((q41.2.2.I x3 ((x18).toNat)) * (q41.2.2.I v52 ((x9).toNat))) / q41.1)))), none, some (.long (Int64.ofInt (x16 + q43.1))), none, some (.int (Int32.ofInt x18)), some (.long (Int64.ofInt q41.1)), none, some (.long (Int64.ofInt q58.1)), none]) (by decide +kernel) rfl mx_254 rfl rfl ?_
        refine ds_lload (k := 10) (p := 612) (by decide +kernel) rfl rfl ?_
        refine ds_lload (k := 19) (p := 614) (by decide +kernel) rfl rfl ?_
        refine ds_lload (k := 21) (p := 616) (by decide +kernel) rfl rfl ?_
        obtain ⟨z60, h⟩ := fx_gd h
        refine ds_ldiv (p := 617) (c := Int64.ofInt (q41.1 / q58.1)) (by decide +kernel) rfl (gcl_nz rfl (x := q41.1) z60) (gal_div rfl rfl z60) ?_
        refine ds_lmul (p := 618) (c := Int64.ofInt (x10 * (q41.1 / q58.1))) (by decide +kernel) rfl (gal_mul rfl rfl) ?_
        refine ds_aload_n (k := 3) (p := 619) (by decide +kernel) rfl rfl ?_
        refine ds_iload (k := 18) (p := 621) (by decide +kernel) rfl rfl ?_
        obtain ⟨z61, h⟩ := fx_gd h
        obtain ⟨z62, h⟩ := fx_gd h
        refine ds_laload (p := 622) (by decide +kernel) rfl z61 z62 ?_
        refine ds_aload (k := 4) (p := 624) (by decide +kernel) rfl rfl ?_
        refine ds_iload (k := 18) (p := 626) (by decide +kernel) rfl rfl ?_
        obtain ⟨z63, h⟩ := fx_gd h
        obtain ⟨z64, h⟩ := fx_gd h
        obtain ⟨v65, w66, h⟩ := fx_bd h
        refine ds_aaload (t := 6) (p := 627) (by decide +kernel) rfl (by decide +kernel) z63 z64 w66 ?_
        refine ds_iload (k := 9) (p := 629) (by decide +kernel) rfl rfl ?_
        obtain ⟨z67, h⟩ := fx_gd h
        obtain ⟨z68, h⟩ := fx_gd h
        refine ds_iaload (p := 630) (by decide +kernel) rfl z67 z68 ?_
        obtain ⟨z69, h⟩ := fx_gd h
        refine ds_i2l (p := 631) (c := Int64.ofInt (q58.2.2.I v65 ((x9).toNat))) (by decide +kernel) rfl (ga_i2l rfl z69) ?_
        refine ds_lmul (p := 632) (c := Int64.ofInt ((q58.2.2.I x3 ((x18).toNat)) * (q58.2.2.I v65 ((x9).toNat)))) (by decide +kernel) rfl (gal_mul rfl rfl) ?_
        refine ds_lload (k := 19) (p := 634) (by decide +kernel) rfl rfl ?_
        obtain ⟨z70, h⟩ := fx_gd h
        refine ds_lrem (p := 635) (c := Int64.ofInt (((q58.2.2.I x3 ((x18).toNat)) * (q58.2.2.I v65 ((x9).toNat))) % q41.1)) (by decide +kernel) rfl (gcl_nz rfl (x := ((q58.2.2.I x3 ((x18).toNat)) * (q58.2.2.I v65 ((x9).toNat)))) z70) (gal_rem rfl rfl z70) ?_
        refine ds_lload (k := 12) (p := 637) (by decide +kernel) rfl rfl ?_
        refine ds_lload (k := 21) (p := 639) (by decide +kernel) rfl rfl ?_
        obtain ⟨z71, h⟩ := fx_gd h
        refine ds_ldiv (p := 640) (c := Int64.ofInt (x12 / q58.1)) (by decide +kernel) rfl (gcl_nz rfl (x := x12) z71) (gal_div rfl rfl z71) ?_
        refine ds_lmul (p := 641) (c := Int64.ofInt ((((q58.2.2.I x3 ((x18).toNat)) * (q58.2.2.I v65 ((x9).toNat))) % q41.1) * (x12 / q58.1))) (by decide +kernel) rfl (gal_mul rfl rfl) ?_
        refine ds_ladd (p := 642) (c := Int64.ofInt ((x10 * (q41.1 / q58.1)) + ((((q58.2.2.I x3 ((x18).toNat)) * (q58.2.2.I v65 ((x9).toNat))) % q41.1) * (x12 / q58.1)))) (by decide +kernel) rfl (gal_add rfl rfl) ?_
        refine ds_lstore (k := 10) (p := 644) (M := 23) (al' := [some (.ref 0), some (.ref x1), some (.int (Int32.ofInt x2)), some (.ref x3), some (.ref x4), some (.long (Int64.ofInt x5)), none, some (.long (Int64.ofInt x7)), none, some (.int (Int32.ofInt x9)), some (.long (Int64.ofInt ((x10 * (q41.1 / q58.1)) + ((((q58.2.2.I x3 ((x18).toNat)) * (q58.2.2.I v65 ((x9).toNat))) % q41.1) * (x12 / q58.1))))), none, some (.long (Int64.ofInt x12)), none, some (.long (Int64.ofInt (x14 + (((q41.2.2.I x3 ((x18).toNat)) * (q41.2.2.I v52 ((x9).toNat))) / q41.1)))), none, some (.long (Int64.ofInt (x16 + q43.1))), none, some (.int (Int32.ofInt x18)), some (.long (Int64.ofInt q41.1)), none, some (.long (Int64.ofInt q58.1)), none]) (by decide +kernel) rfl mx_254 rfl rfl ?_
        refine ds_lload (k := 12) (p := 646) (by decide +kernel) rfl rfl ?_
        refine ds_lload (k := 21) (p := 648) (by decide +kernel) rfl rfl ?_
        refine ds_ldiv (p := 649) (c := Int64.ofInt (x12 / q58.1)) (by decide +kernel) rfl (gcl_nz rfl (x := x12) z71) (gal_div rfl rfl z71) ?_
        refine ds_lload (k := 19) (p := 651) (by decide +kernel) rfl rfl ?_
        refine ds_lmul (p := 652) (c := Int64.ofInt ((x12 / q58.1) * q41.1)) (by decide +kernel) rfl (gal_mul rfl rfl) ?_
        refine ds_lstore (k := 12) (p := 654) (M := 23) (al' := [some (.ref 0), some (.ref x1), some (.int (Int32.ofInt x2)), some (.ref x3), some (.ref x4), some (.long (Int64.ofInt x5)), none, some (.long (Int64.ofInt x7)), none, some (.int (Int32.ofInt x9)), some (.long (Int64.ofInt ((x10 * (q41.1 / q58.1)) + ((((q58.2.2.I x3 ((x18).toNat)) * (q58.2.2.I v65 ((x9).toNat))) % q41.1) * (x12 / q58.1))))), none, some (.long (Int64.ofInt ((x12 / q58.1) * q41.1))), none, some (.long (Int64.ofInt (x14 + (((q41.2.2.I x3 ((x18).toNat)) * (q41.2.2.I v52 ((x9).toNat))) / q41.1)))), none, some (.long (Int64.ofInt (x16 + q43.1))), none, some (.int (Int32.ofInt x18)), some (.long (Int64.ofInt q41.1)), none, some (.long (Int64.ofInt q58.1)), none]) (by decide +kernel) rfl mx_254 rfl rfl ?_
        exact de_254_654 hz hd ih _ _ _ _ _ _ _ _ _ _ _ _ _ _ _ _ _ h
      · rw [if_neg c47] at h
        refine ds_lcmp_ne_f (off := 6) (t := 579) (p := 576) (by decide +kernel) (by decide +kernel) (by decide +kernel) rfl (fun q => c47 ((gcl_ne rfl rfl z46 (by decide)).mp q)) ?_
        refine ds_goto (off := 78) (p := 654) (by decide +kernel) (by decide +kernel) ?_
        exact de_254_654 hz hd ih _ _ _ _ _ _ _ _ _ _ _ _ _ _ _ _ _ h
def dm_254_515 (L : Nat) (xs : Nat → Int32) : Nat → Nat → Int → Nat → Nat → Int → Int → Int → gx_S → dS → Option (Int × DS)
  | 0, _, _, _, _, _, _, _, _, _ => none
  | n + 1, x1, x2, x3, x4, x5, x7, x9, s, δ =>
    if (-2147483648 ≤ x9 ∧ x9 ≤ 2147483647) then (
    if 9 ≤ x9 then (
      if (-9223372036854775808 ≤ x7 ∧ x7 ≤ 9223372036854775807) then (
      if (-9223372036854775808 ≤ x5 ∧ x5 ≤ 9223372036854775807) then (
      if ¬ x7 = x5 then (
        some (0, s, δ)) else (
        (gm_99 x2 (-1) (-1) s).bind fun q6 =>
        if (-2147483648 ≤ q6.1 ∧ q6.1 ≤ 2147483647) then (
        if (-9223372036854775808 ≤ q6.1 ∧ q6.1 ≤ 9223372036854775807) then (
        if ¬ q6.1 = x5 then (
          some (0, q6.2, δ)) else (
          (gm_97 x2 8 q6.2).bind fun q11 =>
          (dm_246 L xs x1 x2 q11.2 δ).bind fun q13 =>
          if (-2147483648 ≤ q11.1 ∧ q11.1 ≤ 2147483647) then (
          if (-2147483648 ≤ q13.1 ∧ q13.1 ≤ 2147483647) then (
          if ¬ q11.1 = q13.1 then (
            some (0, q13.2.1, q13.2.2)) else (
            (gm_97 x2 9 q13.2.1).bind fun q18 =>
            if (-2147483648 ≤ q18.1 ∧ q18.1 ≤ 2147483647) then (
            (dm_249 L xs x1 x2 q18.2 q13.2.2).bind fun q21 =>
            if (-9223372036854775808 ≤ q18.1 ∧ q18.1 ≤ 9223372036854775807) then (
            if (-9223372036854775808 ≤ q21.1 ∧ q21.1 ≤ 9223372036854775807) then (
            if ¬ q18.1 = q21.1 then (
              some (0, q21.2.1, q21.2.2)) else (
              (gm_97 x2 10 q21.2.1).bind fun q26 =>
              if (-2147483648 ≤ q26.1 ∧ q26.1 ≤ 2147483647) then (
              (dm_249 L xs x1 x2 q26.2 q21.2.2).bind fun q29 =>
              if (-9223372036854775808 ≤ q26.1 ∧ q26.1 ≤ 9223372036854775807) then (
              if (-9223372036854775808 ≤ (x5 + q29.1) ∧ (x5 + q29.1) ≤ 9223372036854775807) then (
              if ¬ q26.1 = (x5 + q29.1) then (
                some (0, q29.2.1, q29.2.2)) else (
                some (1, q29.2.1, q29.2.2))) else none) else none) else none)) else none) else none) else none)) else none) else none)) else none) else none)) else none) else none) else (
      dm_254_537 L xs (dm_254_515 L xs n) 100000 x1 x2 x3 x4 x5 x7 x9 0 1 0 0 0 s δ)) else none
theorem de_254_515 {z : iv_Z} {L : Nat} {xs : Nat → Int32} (hz : dZ z L xs) {d : Nat} (hd : 102 ≤ d) : ∀ (n : Nat) (x1 : Nat) (x2 : Int) (x3 : Nat) (x4 : Nat) (x5 : Int) (x7 : Int) (x9 : Int) (o10 : Option Value) (o12 : Option Value) (o14 : Option Value) (o15 : Option Value) (o16 : Option Value) (o18 : Option Value) (o20 : Option Value) (o21 : Option Value) (s : gx_S) (δ : dS) (q : Int × DS), dm_254_515 L xs n x1 x2 x3 x4 x5 x7 x9 s δ = some q → dE z 254 d 515 [some (.ref 0), some (.ref x1), some (.int (Int32.ofInt x2)), some (.ref x3), some (.ref x4), some (.long (Int64.ofInt x5)), none, some (.long (Int64.ofInt x7)), none, some (.int (Int32.ofInt x9)), o10, none, o12, none, o14, o15, o16, none, o18, none, o20, o21, none] [] (s, δ) (some (.int (Int32.ofInt q.1))) q.2 := by
  intro n
  induction n with
  | zero =>
    intro x1 x2 x3 x4 x5 x7 x9 o10 o12 o14 o15 o16 o18 o20 o21 s δ q h
    rw [dm_254_515] at h
    exact fx_no h
  | succ n ih =>
    intro x1 x2 x3 x4 x5 x7 x9 o10 o12 o14 o15 o16 o18 o20 o21 s δ q h
    rw [dm_254_515] at h
    refine ds_iload (k := 9) (p := 517) (by decide +kernel) rfl rfl ?_
    refine ds_bipush (n := 9) (p := 519) (by decide +kernel) rfl dkb_9 ?_
    obtain ⟨z1, h⟩ := fx_gd h
    by_cases c2 : 9 ≤ x9
    · rw [if_pos c2] at h
      refine ds_icmp_ge_t (off := 280) (t := 799) (by decide +kernel) (by decide +kernel) ((gc_le rfl rfl (by decide) z1).mpr c2) ?_
      refine ds_lload (k := 7) (p := 801) (by decide +kernel) rfl rfl ?_
      refine ds_lload (k := 5) (p := 803) (by decide +kernel) rfl rfl ?_
      obtain ⟨z3, h⟩ := fx_gd h
      obtain ⟨z4, h⟩ := fx_gd h
      by_cases c5 : ¬ x7 = x5
      · rw [if_pos c5] at h
        refine ds_lcmp_ne_t (off := 73) (t := 877) (by decide +kernel) (by decide +kernel) (by decide +kernel) ((gcl_ne rfl rfl z3 z4).mpr c5) ?_
        refine ds_iconst (n := 0) (p := 878) (by decide +kernel) rfl rfl ?_
        have h := Option.some.inj h
        subst h
        exact ds_iret (by decide +kernel) rt_254 (by decide +kernel)
      · rw [if_neg c5] at h
        refine ds_lcmp_ne_f (off := 73) (t := 877) (p := 807) (by decide +kernel) (by decide +kernel) (by decide +kernel) rfl (fun q => c5 ((gcl_ne rfl rfl z3 z4).mp q)) ?_
        refine ds_aload_n (k := 0) (p := 808) (by decide +kernel) rfl rfl ?_
        refine ds_iload_n (k := 2) (p := 809) (by decide +kernel) rfl rfl ?_
        refine ds_iconst (n := -1) (p := 810) (by decide +kernel) rfl rfl ?_
        refine ds_iconst (n := -1) (p := 811) (by decide +kernel) rfl rfl ?_
        obtain ⟨q6, w7, h⟩ := fx_bd h
        refine ds_callV (idx := 163) (mj := 99) (ci := 9) (na := 3) (mx := 12) (p := 814) (args := [.ref 0, .int (Int32.ofInt x2), .int (Int32.ofInt (-1)), .int (Int32.ofInt (-1))]) (rest := []) (al2 := [some (.ref 0), some (.int (Int32.ofInt x2)), some (.int (Int32.ofInt (-1))), some (.int (Int32.ofInt (-1))), none, none, none, none, none, none, none, none]) (S2 := (q6.2, δ)) (by decide +kernel) rfl (by decide +kernel) (Or.inl ⟨_, rfl, Or.inr fo_0⟩) rfl rfl rfl rfl rfl rfl (by omega) (fun d' hd' => dx_cls (fe_99 (by omega) (gf_99 rfl rfl rfl rfl w7))) rfl ?_
        obtain ⟨z8, h⟩ := fx_gd h
        refine ds_i2l (p := 815) (c := Int64.ofInt q6.1) (by decide +kernel) rfl (ga_i2l rfl z8) ?_
        refine ds_lload (k := 5) (p := 817) (by decide +kernel) rfl rfl ?_
        obtain ⟨z9, h⟩ := fx_gd h
        by_cases c10 : ¬ q6.1 = x5
        · rw [if_pos c10] at h
          refine ds_lcmp_ne_t (off := 59) (t := 877) (by decide +kernel) (by decide +kernel) (by decide +kernel) ((gcl_ne rfl rfl z9 z4).mpr c10) ?_
          refine ds_iconst (n := 0) (p := 878) (by decide +kernel) rfl rfl ?_
          have h := Option.some.inj h
          subst h
          exact ds_iret (by decide +kernel) rt_254 (by decide +kernel)
        · rw [if_neg c10] at h
          refine ds_lcmp_ne_f (off := 59) (t := 877) (p := 821) (by decide +kernel) (by decide +kernel) (by decide +kernel) rfl (fun q => c10 ((gcl_ne rfl rfl z9 z4).mp q)) ?_
          refine ds_aload_n (k := 0) (p := 822) (by decide +kernel) rfl rfl ?_
          refine ds_iload_n (k := 2) (p := 823) (by decide +kernel) rfl rfl ?_
          refine ds_bipush (n := 8) (p := 825) (by decide +kernel) rfl dkb_8 ?_
          obtain ⟨q11, w12, h⟩ := fx_bd h
          refine ds_callV (idx := 141) (mj := 97) (ci := 9) (na := 2) (mx := 4) (p := 828) (args := [.ref 0, .int (Int32.ofInt x2), .int (Int32.ofInt 8)]) (rest := []) (al2 := [some (.ref 0), some (.int (Int32.ofInt x2)), some (.int (Int32.ofInt 8)), none]) (S2 := (q11.2, δ)) (by decide +kernel) rfl (by decide +kernel) (Or.inl ⟨_, rfl, Or.inr fo_0⟩) rfl rfl rfl rfl rfl rfl (by omega) (fun d' hd' => dx_cls (fe_97 (by omega) (gf_97 rfl rfl rfl w12))) rfl ?_
          refine ds_aload_n (k := 1) (p := 829) (by decide +kernel) rfl rfl ?_
          refine ds_iload_n (k := 2) (p := 830) (by decide +kernel) rfl rfl ?_
          obtain ⟨q13, w14, h⟩ := fx_bd h
          refine ds_callS (idx := 122) (mj := 246) (na := 2) (mx := 4) (p := 833) (args := [.ref x1, .int (Int32.ofInt x2)]) (rest := [.int (Int32.ofInt q11.1)]) (al2 := [some (.ref x1), some (.int (Int32.ofInt x2)), none, none]) (S2 := q13.2) (by decide +kernel) rfl (by decide +kernel) rfl rfl rfl rfl rfl rfl (by omega) (fun d' hd' => de_246 hz (by omega) w14) rfl ?_
          obtain ⟨z15, h⟩ := fx_gd h
          obtain ⟨z16, h⟩ := fx_gd h
          by_cases c17 : ¬ q11.1 = q13.1
          · rw [if_pos c17] at h
            refine ds_icmp_ne_t (off := 44) (t := 877) (by decide +kernel) (by decide +kernel) ((gc_ne rfl rfl z15 z16).mpr c17) ?_
            refine ds_iconst (n := 0) (p := 878) (by decide +kernel) rfl rfl ?_
            have h := Option.some.inj h
            subst h
            exact ds_iret (by decide +kernel) rt_254 (by decide +kernel)
          · rw [if_neg c17] at h
            refine ds_icmp_ne_f (off := 44) (t := 877) (p := 836) (by decide +kernel) (by decide +kernel) rfl (fun q => c17 ((gc_ne rfl rfl z15 z16).mp q)) ?_
            refine ds_aload_n (k := 0) (p := 837) (by decide +kernel) rfl rfl ?_
            refine ds_iload_n (k := 2) (p := 838) (by decide +kernel) rfl rfl ?_
            refine ds_bipush (n := 9) (p := 840) (by decide +kernel) rfl dkb_9 ?_
            obtain ⟨q18, w19, h⟩ := fx_bd h
            refine ds_callV (idx := 141) (mj := 97) (ci := 9) (na := 2) (mx := 4) (p := 843) (args := [.ref 0, .int (Int32.ofInt x2), .int (Int32.ofInt 9)]) (rest := []) (al2 := [some (.ref 0), some (.int (Int32.ofInt x2)), some (.int (Int32.ofInt 9)), none]) (S2 := (q18.2, q13.2.2)) (by decide +kernel) rfl (by decide +kernel) (Or.inl ⟨_, rfl, Or.inr fo_0⟩) rfl rfl rfl rfl rfl rfl (by omega) (fun d' hd' => dx_cls (fe_97 (by omega) (gf_97 rfl rfl rfl w19))) rfl ?_
            obtain ⟨z20, h⟩ := fx_gd h
            refine ds_i2l (p := 844) (c := Int64.ofInt q18.1) (by decide +kernel) rfl (ga_i2l rfl z20) ?_
            refine ds_aload_n (k := 1) (p := 845) (by decide +kernel) rfl rfl ?_
            refine ds_iload_n (k := 2) (p := 846) (by decide +kernel) rfl rfl ?_
            obtain ⟨q21, w22, h⟩ := fx_bd h
            refine ds_callS (idx := 174) (mj := 249) (na := 2) (mx := 2) (p := 849) (args := [.ref x1, .int (Int32.ofInt x2)]) (rest := [.long (Int64.ofInt q18.1)]) (al2 := [some (.ref x1), some (.int (Int32.ofInt x2))]) (S2 := q21.2) (by decide +kernel) rfl (by decide +kernel) rfl rfl rfl rfl rfl rfl (by omega) (fun d' hd' => de_249 hz (by omega) w22) rfl ?_
            obtain ⟨z23, h⟩ := fx_gd h
            obtain ⟨z24, h⟩ := fx_gd h
            by_cases c25 : ¬ q18.1 = q21.1
            · rw [if_pos c25] at h
              refine ds_lcmp_ne_t (off := 27) (t := 877) (by decide +kernel) (by decide +kernel) (by decide +kernel) ((gcl_ne rfl rfl z23 z24).mpr c25) ?_
              refine ds_iconst (n := 0) (p := 878) (by decide +kernel) rfl rfl ?_
              have h := Option.some.inj h
              subst h
              exact ds_iret (by decide +kernel) rt_254 (by decide +kernel)
            · rw [if_neg c25] at h
              refine ds_lcmp_ne_f (off := 27) (t := 877) (p := 853) (by decide +kernel) (by decide +kernel) (by decide +kernel) rfl (fun q => c25 ((gcl_ne rfl rfl z23 z24).mp q)) ?_
              refine ds_aload_n (k := 0) (p := 854) (by decide +kernel) rfl rfl ?_
              refine ds_iload_n (k := 2) (p := 855) (by decide +kernel) rfl rfl ?_
              refine ds_bipush (n := 10) (p := 857) (by decide +kernel) rfl dkb_10 ?_
              obtain ⟨q26, w27, h⟩ := fx_bd h
              refine ds_callV (idx := 141) (mj := 97) (ci := 9) (na := 2) (mx := 4) (p := 860) (args := [.ref 0, .int (Int32.ofInt x2), .int (Int32.ofInt 10)]) (rest := []) (al2 := [some (.ref 0), some (.int (Int32.ofInt x2)), some (.int (Int32.ofInt 10)), none]) (S2 := (q26.2, q21.2.2)) (by decide +kernel) rfl (by decide +kernel) (Or.inl ⟨_, rfl, Or.inr fo_0⟩) rfl rfl rfl rfl rfl rfl (by omega) (fun d' hd' => dx_cls (fe_97 (by omega) (gf_97 rfl rfl rfl w27))) rfl ?_
              obtain ⟨z28, h⟩ := fx_gd h
              refine ds_i2l (p := 861) (c := Int64.ofInt q26.1) (by decide +kernel) rfl (ga_i2l rfl z28) ?_
              refine ds_lload (k := 5) (p := 863) (by decide +kernel) rfl rfl ?_
              refine ds_aload_n (k := 1) (p := 864) (by decide +kernel) rfl rfl ?_
              refine ds_iload_n (k := 2) (p := 865) (by decide +kernel) rfl rfl ?_
              obtain ⟨q29, w30, h⟩ := fx_bd h
              refine ds_callS (idx := 174) (mj := 249) (na := 2) (mx := 2) (p := 868) (args := [.ref x1, .int (Int32.ofInt x2)]) (rest := [.long (Int64.ofInt x5), .long (Int64.ofInt q26.1)]) (al2 := [some (.ref x1), some (.int (Int32.ofInt x2))]) (S2 := q29.2) (by decide +kernel) rfl (by decide +kernel) rfl rfl rfl rfl rfl rfl (by omega) (fun d' hd' => de_249 hz (by omega) w30) rfl ?_
              refine ds_ladd (p := 869) (c := Int64.ofInt (x5 + q29.1)) (by decide +kernel) rfl (gal_add rfl rfl) ?_
              obtain ⟨z31, h⟩ := fx_gd h
              obtain ⟨z32, h⟩ := fx_gd h
              by_cases c33 : ¬ q26.1 = (x5 + q29.1)
              · rw [if_pos c33] at h
                refine ds_lcmp_ne_t (off := 7) (t := 877) (by decide +kernel) (by decide +kernel) (by decide +kernel) ((gcl_ne rfl rfl z31 z32).mpr c33) ?_
                refine ds_iconst (n := 0) (p := 878) (by decide +kernel) rfl rfl ?_
                have h := Option.some.inj h
                subst h
                exact ds_iret (by decide +kernel) rt_254 (by decide +kernel)
              · rw [if_neg c33] at h
                refine ds_lcmp_ne_f (off := 7) (t := 877) (p := 873) (by decide +kernel) (by decide +kernel) (by decide +kernel) rfl (fun q => c33 ((gcl_ne rfl rfl z31 z32).mp q)) ?_
                refine ds_iconst (n := 1) (p := 874) (by decide +kernel) rfl rfl ?_
                refine ds_goto (off := 4) (p := 878) (by decide +kernel) (by decide +kernel) ?_
                have h := Option.some.inj h
                subst h
                exact ds_iret (by decide +kernel) rt_254 (by decide +kernel)
    · rw [if_neg c2] at h
      refine ds_icmp_ge_f (off := 280) (t := 799) (p := 522) (by decide +kernel) (by decide +kernel) rfl (fun q => c2 ((gc_le rfl rfl (by decide) z1).mp q)) ?_
      refine ds_lconst (n := 0) (p := 523) (by decide +kernel) rfl dl_0 ?_
      refine ds_lstore (k := 10) (p := 525) (M := 23) (al' := [some (.ref 0), some (.ref x1), some (.int (Int32.ofInt x2)), some (.ref x3), some (.ref x4), some (.long (Int64.ofInt x5)), none, some (.long (Int64.ofInt x7)), none, some (.int (Int32.ofInt x9)), some (.long (Int64.ofInt 0)), none, o12, none, o14, o15, o16, none, o18, none, o20, o21, none]) (by decide +kernel) rfl mx_254 rfl rfl ?_
      refine ds_lconst (n := 1) (p := 526) (by decide +kernel) rfl dl_1 ?_
      refine ds_lstore (k := 12) (p := 528) (M := 23) (al' := [some (.ref 0), some (.ref x1), some (.int (Int32.ofInt x2)), some (.ref x3), some (.ref x4), some (.long (Int64.ofInt x5)), none, some (.long (Int64.ofInt x7)), none, some (.int (Int32.ofInt x9)), some (.long (Int64.ofInt 0)), none, some (.long (Int64.ofInt 1)), none, o14, o15, o16, none, o18, none, o20, o21, none]) (by decide +kernel) rfl mx_254 rfl rfl ?_
      refine ds_lconst (n := 0) (p := 529) (by decide +kernel) rfl dl_0 ?_
      refine ds_lstore (k := 14) (p := 531) (M := 23) (al' := [some (.ref 0), some (.ref x1), some (.int (Int32.ofInt x2)), some (.ref x3), some (.ref x4), some (.long (Int64.ofInt x5)), none, some (.long (Int64.ofInt x7)), none, some (.int (Int32.ofInt x9)), some (.long (Int64.ofInt 0)), none, some (.long (Int64.ofInt 1)), none, some (.long (Int64.ofInt 0)), none, o16, none, o18, none, o20, o21, none]) (by decide +kernel) rfl mx_254 rfl rfl ?_
      refine ds_lconst (n := 0) (p := 532) (by decide +kernel) rfl dl_0 ?_
      refine ds_lstore (k := 16) (p := 534) (M := 23) (al' := [some (.ref 0), some (.ref x1), some (.int (Int32.ofInt x2)), some (.ref x3), some (.ref x4), some (.long (Int64.ofInt x5)), none, some (.long (Int64.ofInt x7)), none, some (.int (Int32.ofInt x9)), some (.long (Int64.ofInt 0)), none, some (.long (Int64.ofInt 1)), none, some (.long (Int64.ofInt 0)), none, some (.long (Int64.ofInt 0)), none, o18, none, o20, o21, none]) (by decide +kernel) rfl mx_254 rfl rfl ?_
      refine ds_iconst (n := 0) (p := 535) (by decide +kernel) rfl rfl ?_
      refine ds_istore (k := 18) (p := 537) (M := 23) (al' := [some (.ref 0), some (.ref x1), some (.int (Int32.ofInt x2)), some (.ref x3), some (.ref x4), some (.long (Int64.ofInt x5)), none, some (.long (Int64.ofInt x7)), none, some (.int (Int32.ofInt x9)), some (.long (Int64.ofInt 0)), none, some (.long (Int64.ofInt 1)), none, some (.long (Int64.ofInt 0)), none, some (.long (Int64.ofInt 0)), none, some (.int (Int32.ofInt 0)), none, o20, o21, none]) (by decide +kernel) rfl mx_254 rfl rfl ?_
      exact de_254_537 hz hd ih 100000 _ _ _ _ _ _ _ _ _ _ _ _ _ _ _ _ _ _ h
def dm_254_503 (L : Nat) (xs : Nat → Int32) (k_19 : Nat → Int → Nat → Nat → Int → Int → gx_S → dS → Option (Int × DS)) (x1 : Nat) (x2 : Int) (x3 : Nat) (x4 : Nat) (x5 : Int) (x7 : Int) (s : gx_S) (δ : dS) : Option (Int × DS) :=
  k_19 x1 x2 x3 x4 x5 (x7 + 1) s δ
theorem de_254_503 {z : iv_Z} {L : Nat} {xs : Nat → Int32} (hz : dZ z L xs) {d : Nat} (hd : 102 ≤ d) {k_19 : Nat → Int → Nat → Nat → Int → Int → gx_S → dS → Option (Int × DS)} (hk_19 : ∀ (x1 : Nat) (x2 : Int) (x3 : Nat) (x4 : Nat) (x5 : Int) (x7 : Int) (o8 : Option Value) (o10 : Option Value) (o12 : Option Value) (o14 : Option Value) (o15 : Option Value) (o16 : Option Value) (o18 : Option Value) (o20 : Option Value) (o21 : Option Value) (s : gx_S) (δ : dS) (q : Int × DS), k_19 x1 x2 x3 x4 x5 x7 s δ = some q → dE z 254 d 19 [some (.ref 0), some (.ref x1), some (.int (Int32.ofInt x2)), some (.ref x3), some (.ref x4), some (.long (Int64.ofInt x5)), none, some (.int (Int32.ofInt x7)), o8, none, o10, none, o12, none, o14, o15, o16, none, o18, none, o20, o21, none] [] (s, δ) (some (.int (Int32.ofInt q.1))) q.2) (x1 : Nat) (x2 : Int) (x3 : Nat) (x4 : Nat) (x5 : Int) (x7 : Int) (o8 : Option Value) (o10 : Option Value) (o12 : Option Value) (o14 : Option Value) (o15 : Option Value) (o16 : Option Value) (o18 : Option Value) (o20 : Option Value) (o21 : Option Value) (s : gx_S) (δ : dS) (q : Int × DS) (h : dm_254_503 L xs k_19  x1 x2 x3 x4 x5 x7 s δ = some q) : dE z 254 d 503 [some (.ref 0), some (.ref x1), some (.int (Int32.ofInt x2)), some (.ref x3), some (.ref x4), some (.long (Int64.ofInt x5)), none, some (.int (Int32.ofInt x7)), o8, none, o10, none, o12, none, o14, o15, o16, none, o18, none, o20, o21, none] [] (s, δ) (some (.int (Int32.ofInt q.1))) q.2 := by
  unfold dm_254_503 at h
  refine ds_iinc (k := 7) (n := 1) (p := 506) (M := 23) (y := Int32.ofInt (x7 + 1)) (al' := [some (.ref 0), some (.ref x1), some (.int (Int32.ofInt x2)), some (.ref x3), some (.ref x4), some (.long (Int64.ofInt x5)), none, some (.int (Int32.ofInt (x7 + 1))), o8, none, o10, none, o12, none, o14, o15, o16, none, o18, none, o20, o21, none]) (by decide +kernel) rfl rfl mx_254 rfl rfl (ga_add rfl rfl) rfl ?_
  refine ds_goto (off := -487) (p := 19) (by decide +kernel) (by decide +kernel) ?_
  exact hk_19 _ _ _ _ _ _ _ _ _ _ _ _ _ _ _ _ _ _ h
def dm_254_491 (L : Nat) (xs : Nat → Int32) (k_335 : Nat → Int → Nat → Nat → Int → Int → Int → Int → Int → gx_S → dS → Option (Int × DS)) (x1 : Nat) (x2 : Int) (x3 : Nat) (x4 : Nat) (x5 : Int) (x7 : Int) (x8 : Int) (x14 : Int) (x15 : Int) (s : gx_S) (δ : dS) : Option (Int × DS) :=
  k_335 x1 x2 x3 x4 x5 x7 x8 x14 (x15 + 1) s δ
theorem de_254_491 {z : iv_Z} {L : Nat} {xs : Nat → Int32} (hz : dZ z L xs) {d : Nat} (hd : 102 ≤ d) {k_335 : Nat → Int → Nat → Nat → Int → Int → Int → Int → Int → gx_S → dS → Option (Int × DS)} (hk_335 : ∀ (x1 : Nat) (x2 : Int) (x3 : Nat) (x4 : Nat) (x5 : Int) (x7 : Int) (x8 : Int) (x14 : Int) (x15 : Int) (o10 : Option Value) (o12 : Option Value) (o16 : Option Value) (o18 : Option Value) (o20 : Option Value) (o21 : Option Value) (s : gx_S) (δ : dS) (q : Int × DS), k_335 x1 x2 x3 x4 x5 x7 x8 x14 x15 s δ = some q → dE z 254 d 335 [some (.ref 0), some (.ref x1), some (.int (Int32.ofInt x2)), some (.ref x3), some (.ref x4), some (.long (Int64.ofInt x5)), none, some (.int (Int32.ofInt x7)), some (.long (Int64.ofInt x8)), none, o10, none, o12, none, some (.int (Int32.ofInt x14)), some (.int (Int32.ofInt x15)), o16, none, o18, none, o20, o21, none] [] (s, δ) (some (.int (Int32.ofInt q.1))) q.2) (x1 : Nat) (x2 : Int) (x3 : Nat) (x4 : Nat) (x5 : Int) (x7 : Int) (x8 : Int) (x14 : Int) (x15 : Int) (o10 : Option Value) (o12 : Option Value) (o16 : Option Value) (o18 : Option Value) (o20 : Option Value) (o21 : Option Value) (s : gx_S) (δ : dS) (q : Int × DS) (h : dm_254_491 L xs k_335  x1 x2 x3 x4 x5 x7 x8 x14 x15 s δ = some q) : dE z 254 d 491 [some (.ref 0), some (.ref x1), some (.int (Int32.ofInt x2)), some (.ref x3), some (.ref x4), some (.long (Int64.ofInt x5)), none, some (.int (Int32.ofInt x7)), some (.long (Int64.ofInt x8)), none, o10, none, o12, none, some (.int (Int32.ofInt x14)), some (.int (Int32.ofInt x15)), o16, none, o18, none, o20, o21, none] [] (s, δ) (some (.int (Int32.ofInt q.1))) q.2 := by
  unfold dm_254_491 at h
  refine ds_iinc (k := 15) (n := 1) (p := 494) (M := 23) (y := Int32.ofInt (x15 + 1)) (al' := [some (.ref 0), some (.ref x1), some (.int (Int32.ofInt x2)), some (.ref x3), some (.ref x4), some (.long (Int64.ofInt x5)), none, some (.int (Int32.ofInt x7)), some (.long (Int64.ofInt x8)), none, o10, none, o12, none, some (.int (Int32.ofInt x14)), some (.int (Int32.ofInt (x15 + 1))), o16, none, o18, none, o20, o21, none]) (by decide +kernel) rfl rfl mx_254 rfl rfl (ga_add rfl rfl) rfl ?_
  refine ds_goto (off := -159) (p := 335) (by decide +kernel) (by decide +kernel) ?_
  exact hk_335 _ _ _ _ _ _ _ _ _ _ _ _ _ _ _ _ _ _ h
def dm_254_454 (L : Nat) (xs : Nat → Int32) (k_335 : Nat → Int → Nat → Nat → Int → Int → Int → Int → Int → gx_S → dS → Option (Int × DS)) (x1 : Nat) (x2 : Int) (x3 : Nat) (x4 : Nat) (x5 : Int) (x7 : Int) (x8 : Int) (x14 : Int) (x15 : Int) (x16 : Int) (x18 : Int) (x20 : Int) (s0 : Int) (s : gx_S) (δ : dS) : Option (Int × DS) :=
  if (-2147483648 ≤ x20 ∧ x20 ≤ 2147483647) then (
  if x20 = 0 then (
    dm_254_491 L xs k_335 x1 x2 x3 x4 x5 x7 x8 x14 x15 s δ) else (
    if (-2147483648 ≤ s0 ∧ s0 ≤ 2147483647) then (
    if ¬ s0 = 0 then (
      dm_254_491 L xs k_335 x1 x2 x3 x4 x5 x7 x8 x14 x15 s δ) else (
      if (-9223372036854775808 ≤ x18 ∧ x18 ≤ 9223372036854775807) then (
      if (-9223372036854775808 ≤ x16 ∧ x16 ≤ 9223372036854775807) then (
      if x16 < x18 then (
        some (0, s, δ)) else (
        if ¬ x18 = x16 then (
          dm_254_491 L xs k_335 x1 x2 x3 x4 x5 x7 x8 x14 x15 s δ) else (
          if (-2147483648 ≤ x15 ∧ x15 ≤ 2147483647) then (
          if (-2147483648 ≤ x14 ∧ x14 ≤ 2147483647) then (
          if x14 ≤ x15 then (
            dm_254_491 L xs k_335 x1 x2 x3 x4 x5 x7 x8 x14 x15 s δ) else (
            some (0, s, δ))) else none) else none))) else none) else none)) else none)) else none
theorem de_254_454 {z : iv_Z} {L : Nat} {xs : Nat → Int32} (hz : dZ z L xs) {d : Nat} (hd : 102 ≤ d) {k_335 : Nat → Int → Nat → Nat → Int → Int → Int → Int → Int → gx_S → dS → Option (Int × DS)} (hk_335 : ∀ (x1 : Nat) (x2 : Int) (x3 : Nat) (x4 : Nat) (x5 : Int) (x7 : Int) (x8 : Int) (x14 : Int) (x15 : Int) (o10 : Option Value) (o12 : Option Value) (o16 : Option Value) (o18 : Option Value) (o20 : Option Value) (o21 : Option Value) (s : gx_S) (δ : dS) (q : Int × DS), k_335 x1 x2 x3 x4 x5 x7 x8 x14 x15 s δ = some q → dE z 254 d 335 [some (.ref 0), some (.ref x1), some (.int (Int32.ofInt x2)), some (.ref x3), some (.ref x4), some (.long (Int64.ofInt x5)), none, some (.int (Int32.ofInt x7)), some (.long (Int64.ofInt x8)), none, o10, none, o12, none, some (.int (Int32.ofInt x14)), some (.int (Int32.ofInt x15)), o16, none, o18, none, o20, o21, none] [] (s, δ) (some (.int (Int32.ofInt q.1))) q.2) (x1 : Nat) (x2 : Int) (x3 : Nat) (x4 : Nat) (x5 : Int) (x7 : Int) (x8 : Int) (x14 : Int) (x15 : Int) (x16 : Int) (x18 : Int) (x20 : Int) (s0 : Int) (o10 : Option Value) (o12 : Option Value) (o21 : Option Value) (s : gx_S) (δ : dS) (q : Int × DS) (h : dm_254_454 L xs k_335  x1 x2 x3 x4 x5 x7 x8 x14 x15 x16 x18 x20 s0 s δ = some q) : dE z 254 d 454 [some (.ref 0), some (.ref x1), some (.int (Int32.ofInt x2)), some (.ref x3), some (.ref x4), some (.long (Int64.ofInt x5)), none, some (.int (Int32.ofInt x7)), some (.long (Int64.ofInt x8)), none, o10, none, o12, none, some (.int (Int32.ofInt x14)), some (.int (Int32.ofInt x15)), some (.long (Int64.ofInt x16)), none, some (.long (Int64.ofInt x18)), none, some (.int (Int32.ofInt x20)), o21, none] [.int (Int32.ofInt s0)] (s, δ) (some (.int (Int32.ofInt q.1))) q.2 := by
  unfold dm_254_454 at h
  refine ds_istore (k := 21) (p := 456) (M := 23) (al' := [some (.ref 0), some (.ref x1), some (.int (Int32.ofInt x2)), some (.ref x3), some (.ref x4), some (.long (Int64.ofInt x5)), none, some (.int (Int32.ofInt x7)), some (.long (Int64.ofInt x8)), none, o10, none, o12, none, some (.int (Int32.ofInt x14)), some (.int (Int32.ofInt x15)), some (.long (Int64.ofInt x16)), none, some (.long (Int64.ofInt x18)), none, some (.int (Int32.ofInt x20)), some (.int (Int32.ofInt s0)), none]) (by decide +kernel) rfl mx_254 rfl rfl ?_
  refine ds_iload (k := 20) (p := 458) (by decide +kernel) rfl rfl ?_
  obtain ⟨z1, h⟩ := fx_gd h
  by_cases c2 : x20 = 0
  · rw [if_pos c2] at h
    refine ds_if_eq_t (off := 33) (t := 491) (by decide +kernel) (by decide +kernel) ((gc_eq rfl rfl z1 (by decide)).mpr c2) ?_
    exact de_254_491 hz hd hk_335 _ _ _ _ _ _ _ _ _ _ _ _ _ _ _ _ _ _ h
  · rw [if_neg c2] at h
    refine ds_if_eq_f (off := 33) (t := 491) (p := 461) (by decide +kernel) (by decide +kernel) rfl (fun q => c2 ((gc_eq rfl rfl z1 (by decide)).mp q)) ?_
    refine ds_iload (k := 21) (p := 463) (by decide +kernel) rfl rfl ?_
    obtain ⟨z3, h⟩ := fx_gd h
    by_cases c4 : ¬ s0 = 0
    · rw [if_pos c4] at h
      refine ds_if_ne_t (off := 28) (t := 491) (by decide +kernel) (by decide +kernel) ((gc_ne rfl rfl z3 (by decide)).mpr c4) ?_
      exact de_254_491 hz hd hk_335 _ _ _ _ _ _ _ _ _ _ _ _ _ _ _ _ _ _ h
    · rw [if_neg c4] at h
      refine ds_if_ne_f (off := 28) (t := 491) (p := 466) (by decide +kernel) (by decide +kernel) rfl (fun q => c4 ((gc_ne rfl rfl z3 (by decide)).mp q)) ?_
      refine ds_lload (k := 18) (p := 468) (by decide +kernel) rfl rfl ?_
      refine ds_lload (k := 16) (p := 470) (by decide +kernel) rfl rfl ?_
      obtain ⟨z5, h⟩ := fx_gd h
      obtain ⟨z6, h⟩ := fx_gd h
      by_cases c7 : x16 < x18
      · rw [if_pos c7] at h
        refine ds_lcmp_gt_t (off := 18) (t := 489) (by decide +kernel) (by decide +kernel) (by decide +kernel) ((gcl_lt rfl rfl z6 z5).mpr c7) ?_
        refine ds_iconst (n := 0) (p := 490) (by decide +kernel) rfl rfl ?_
        have h := Option.some.inj h
        subst h
        exact ds_iret (by decide +kernel) rt_254 (by decide +kernel)
      · rw [if_neg c7] at h
        refine ds_lcmp_gt_f (off := 18) (t := 489) (p := 474) (by decide +kernel) (by decide +kernel) (by decide +kernel) rfl (fun q => c7 ((gcl_lt rfl rfl z6 z5).mp q)) ?_
        refine ds_lload (k := 18) (p := 476) (by decide +kernel) rfl rfl ?_
        refine ds_lload (k := 16) (p := 478) (by decide +kernel) rfl rfl ?_
        by_cases c8 : ¬ x18 = x16
        · rw [if_pos c8] at h
          refine ds_lcmp_ne_t (off := 12) (t := 491) (by decide +kernel) (by decide +kernel) (by decide +kernel) ((gcl_ne rfl rfl z5 z6).mpr c8) ?_
          exact de_254_491 hz hd hk_335 _ _ _ _ _ _ _ _ _ _ _ _ _ _ _ _ _ _ h
        · rw [if_neg c8] at h
          refine ds_lcmp_ne_f (off := 12) (t := 491) (p := 482) (by decide +kernel) (by decide +kernel) (by decide +kernel) rfl (fun q => c8 ((gcl_ne rfl rfl z5 z6).mp q)) ?_
          refine ds_iload (k := 15) (p := 484) (by decide +kernel) rfl rfl ?_
          refine ds_iload (k := 14) (p := 486) (by decide +kernel) rfl rfl ?_
          obtain ⟨z9, h⟩ := fx_gd h
          obtain ⟨z10, h⟩ := fx_gd h
          by_cases c11 : x14 ≤ x15
          · rw [if_pos c11] at h
            refine ds_icmp_ge_t (off := 5) (t := 491) (by decide +kernel) (by decide +kernel) ((gc_le rfl rfl z10 z9).mpr c11) ?_
            exact de_254_491 hz hd hk_335 _ _ _ _ _ _ _ _ _ _ _ _ _ _ _ _ _ _ h
          · rw [if_neg c11] at h
            refine ds_icmp_ge_f (off := 5) (t := 491) (p := 489) (by decide +kernel) (by decide +kernel) rfl (fun q => c11 ((gc_le rfl rfl z10 z9).mp q)) ?_
            refine ds_iconst (n := 0) (p := 490) (by decide +kernel) rfl rfl ?_
            have h := Option.some.inj h
            subst h
            exact ds_iret (by decide +kernel) rt_254 (by decide +kernel)
def dm_254_416 (L : Nat) (xs : Nat → Int32) (k_335 : Nat → Int → Nat → Nat → Int → Int → Int → Int → Int → gx_S → dS → Option (Int × DS)) (x1 : Nat) (x2 : Int) (x3 : Nat) (x4 : Nat) (x5 : Int) (x7 : Int) (x8 : Int) (x14 : Int) (x15 : Int) (x16 : Int) (x18 : Int) (s0 : Int) (s : gx_S) (δ : dS) : Option (Int × DS) :=
  (gm_99 x2 x7 x15 s).bind fun q1 =>
  if (-2147483648 ≤ q1.1 ∧ q1.1 ≤ 2147483647) then (
  if dA δ 1 x3 then (
  if dI δ x3 x7 then (
  if dA δ 6 x4 then (
  if dI δ x4 x7 then (
  (δ.P x4 ((x7).toNat)).bind fun v8 =>
  if dA δ 0 v8 then (
  if dI δ v8 x15 then (
  if (-2147483648 ≤ (δ.I v8 ((x15).toNat)) ∧ (δ.I v8 ((x15).toNat)) ≤ 2147483647) then (
  if 0 ≤ ((δ.I x3 ((x7).toNat)) * (δ.I v8 ((x15).toNat))) ∧ ((δ.I x3 ((x7).toNat)) * (δ.I v8 ((x15).toNat))) ≤ 9223372036854775807 ∧ 0 < x8 ∧ x8 ≤ 9223372036854775807 then (
  if (-9223372036854775808 ≤ q1.1 ∧ q1.1 ≤ 9223372036854775807) then (
  if (-9223372036854775808 ≤ (((δ.I x3 ((x7).toNat)) * (δ.I v8 ((x15).toNat))) / x8) ∧ (((δ.I x3 ((x7).toNat)) * (δ.I v8 ((x15).toNat))) / x8) ≤ 9223372036854775807) then (
  if q1.1 ≤ (((δ.I x3 ((x7).toNat)) * (δ.I v8 ((x15).toNat))) / x8) then (
    dm_254_454 L xs k_335 x1 x2 x3 x4 x5 x7 x8 x14 x15 x16 x18 s0 0 q1.2 δ) else (
    dm_254_454 L xs k_335 x1 x2 x3 x4 x5 x7 x8 x14 x15 x16 x18 s0 1 q1.2 δ)) else none) else none) else none) else none) else none) else none) else none) else none) else none) else none) else none
theorem de_254_416 {z : iv_Z} {L : Nat} {xs : Nat → Int32} (hz : dZ z L xs) {d : Nat} (hd : 102 ≤ d) {k_335 : Nat → Int → Nat → Nat → Int → Int → Int → Int → Int → gx_S → dS → Option (Int × DS)} (hk_335 : ∀ (x1 : Nat) (x2 : Int) (x3 : Nat) (x4 : Nat) (x5 : Int) (x7 : Int) (x8 : Int) (x14 : Int) (x15 : Int) (o10 : Option Value) (o12 : Option Value) (o16 : Option Value) (o18 : Option Value) (o20 : Option Value) (o21 : Option Value) (s : gx_S) (δ : dS) (q : Int × DS), k_335 x1 x2 x3 x4 x5 x7 x8 x14 x15 s δ = some q → dE z 254 d 335 [some (.ref 0), some (.ref x1), some (.int (Int32.ofInt x2)), some (.ref x3), some (.ref x4), some (.long (Int64.ofInt x5)), none, some (.int (Int32.ofInt x7)), some (.long (Int64.ofInt x8)), none, o10, none, o12, none, some (.int (Int32.ofInt x14)), some (.int (Int32.ofInt x15)), o16, none, o18, none, o20, o21, none] [] (s, δ) (some (.int (Int32.ofInt q.1))) q.2) (x1 : Nat) (x2 : Int) (x3 : Nat) (x4 : Nat) (x5 : Int) (x7 : Int) (x8 : Int) (x14 : Int) (x15 : Int) (x16 : Int) (x18 : Int) (s0 : Int) (o10 : Option Value) (o12 : Option Value) (o20 : Option Value) (o21 : Option Value) (s : gx_S) (δ : dS) (q : Int × DS) (h : dm_254_416 L xs k_335  x1 x2 x3 x4 x5 x7 x8 x14 x15 x16 x18 s0 s δ = some q) : dE z 254 d 416 [some (.ref 0), some (.ref x1), some (.int (Int32.ofInt x2)), some (.ref x3), some (.ref x4), some (.long (Int64.ofInt x5)), none, some (.int (Int32.ofInt x7)), some (.long (Int64.ofInt x8)), none, o10, none, o12, none, some (.int (Int32.ofInt x14)), some (.int (Int32.ofInt x15)), some (.long (Int64.ofInt x16)), none, some (.long (Int64.ofInt x18)), none, o20, o21, none] [.int (Int32.ofInt s0)] (s, δ) (some (.int (Int32.ofInt q.1))) q.2 := by
  unfold dm_254_416 at h
  refine ds_istore (k := 20) (p := 418) (M := 23) (al' := [some (.ref 0), some (.ref x1), some (.int (Int32.ofInt x2)), some (.ref x3), some (.ref x4), some (.long (Int64.ofInt x5)), none, some (.int (Int32.ofInt x7)), some (.long (Int64.ofInt x8)), none, o10, none, o12, none, some (.int (Int32.ofInt x14)), some (.int (Int32.ofInt x15)), some (.long (Int64.ofInt x16)), none, some (.long (Int64.ofInt x18)), none, some (.int (Int32.ofInt s0)), o21, none]) (by decide +kernel) rfl mx_254 rfl rfl ?_
  refine ds_aload_n (k := 0) (p := 419) (by decide +kernel) rfl rfl ?_
  refine ds_iload_n (k := 2) (p := 420) (by decide +kernel) rfl rfl ?_
  refine ds_iload (k := 7) (p := 422) (by decide +kernel) rfl rfl ?_
  refine ds_iload (k := 15) (p := 424) (by decide +kernel) rfl rfl ?_
  obtain ⟨q1, w2, h⟩ := fx_bd h
  refine ds_callV (idx := 163) (mj := 99) (ci := 9) (na := 3) (mx := 12) (p := 427) (args := [.ref 0, .int (Int32.ofInt x2), .int (Int32.ofInt x7), .int (Int32.ofInt x15)]) (rest := []) (al2 := [some (.ref 0), some (.int (Int32.ofInt x2)), some (.int (Int32.ofInt x7)), some (.int (Int32.ofInt x15)), none, none, none, none, none, none, none, none]) (S2 := (q1.2, δ)) (by decide +kernel) rfl (by decide +kernel) (Or.inl ⟨_, rfl, Or.inr fo_0⟩) rfl rfl rfl rfl rfl rfl (by omega) (fun d' hd' => dx_cls (fe_99 (by omega) (gf_99 rfl rfl rfl rfl w2))) rfl ?_
  obtain ⟨z3, h⟩ := fx_gd h
  refine ds_i2l (p := 428) (c := Int64.ofInt q1.1) (by decide +kernel) rfl (ga_i2l rfl z3) ?_
  refine ds_aload_n (k := 3) (p := 429) (by decide +kernel) rfl rfl ?_
  refine ds_iload (k := 7) (p := 431) (by decide +kernel) rfl rfl ?_
  obtain ⟨z4, h⟩ := fx_gd h
  obtain ⟨z5, h⟩ := fx_gd h
  refine ds_laload (p := 432) (by decide +kernel) rfl z4 z5 ?_
  refine ds_aload (k := 4) (p := 434) (by decide +kernel) rfl rfl ?_
  refine ds_iload (k := 7) (p := 436) (by decide +kernel) rfl rfl ?_
  obtain ⟨z6, h⟩ := fx_gd h
  obtain ⟨z7, h⟩ := fx_gd h
  obtain ⟨v8, w9, h⟩ := fx_bd h
  refine ds_aaload (t := 6) (p := 437) (by decide +kernel) rfl (by decide +kernel) z6 z7 w9 ?_
  refine ds_iload (k := 15) (p := 439) (by decide +kernel) rfl rfl ?_
  obtain ⟨z10, h⟩ := fx_gd h
  obtain ⟨z11, h⟩ := fx_gd h
  refine ds_iaload (p := 440) (by decide +kernel) rfl z10 z11 ?_
  obtain ⟨z12, h⟩ := fx_gd h
  refine ds_i2l (p := 441) (c := Int64.ofInt (δ.I v8 ((x15).toNat))) (by decide +kernel) rfl (ga_i2l rfl z12) ?_
  refine ds_lmul (p := 442) (c := Int64.ofInt ((δ.I x3 ((x7).toNat)) * (δ.I v8 ((x15).toNat)))) (by decide +kernel) rfl (gal_mul rfl rfl) ?_
  refine ds_lload (k := 8) (p := 444) (by decide +kernel) rfl rfl ?_
  obtain ⟨z13, h⟩ := fx_gd h
  refine ds_ldiv (p := 445) (c := Int64.ofInt (((δ.I x3 ((x7).toNat)) * (δ.I v8 ((x15).toNat))) / x8)) (by decide +kernel) rfl (gcl_nz rfl (x := ((δ.I x3 ((x7).toNat)) * (δ.I v8 ((x15).toNat)))) z13) (gal_div rfl rfl z13) ?_
  obtain ⟨z14, h⟩ := fx_gd h
  obtain ⟨z15, h⟩ := fx_gd h
  by_cases c16 : q1.1 ≤ (((δ.I x3 ((x7).toNat)) * (δ.I v8 ((x15).toNat))) / x8)
  · rw [if_pos c16] at h
    refine ds_lcmp_le_t (off := 7) (t := 453) (by decide +kernel) (by decide +kernel) (by decide +kernel) ((gcl_le rfl rfl z14 z15).mpr c16) ?_
    refine ds_iconst (n := 0) (p := 454) (by decide +kernel) rfl rfl ?_
    exact de_254_454 hz hd hk_335 _ _ _ _ _ _ _ _ _ _ _ _ _ _ _ _ _ _ _ h
  · rw [if_neg c16] at h
    refine ds_lcmp_le_f (off := 7) (t := 453) (p := 449) (by decide +kernel) (by decide +kernel) (by decide +kernel) rfl (fun q => c16 ((gcl_le rfl rfl z14 z15).mp q)) ?_
    refine ds_iconst (n := 1) (p := 450) (by decide +kernel) rfl rfl ?_
    refine ds_goto (off := 4) (p := 454) (by decide +kernel) (by decide +kernel) ?_
    exact de_254_454 hz hd hk_335 _ _ _ _ _ _ _ _ _ _ _ _ _ _ _ _ _ _ _ h
def dm_254_335 (L : Nat) (xs : Nat → Int32) (k_311 : Nat → Int → Nat → Nat → Int → Int → Int → Int → gx_S → dS → Option (Int × DS)) : Nat → Nat → Int → Nat → Nat → Int → Int → Int → Int → Int → gx_S → dS → Option (Int × DS)
  | 0, _, _, _, _, _, _, _, _, _, _, _ => none
  | n + 1, x1, x2, x3, x4, x5, x7, x8, x14, x15, s, δ =>
    if (-2147483648 ≤ x15 ∧ x15 ≤ 2147483647) then (
    if 9 ≤ x15 then (
      k_311 x1 x2 x3 x4 x5 x7 x8 (x14 + 1) s δ) else (
      if dA δ 1 x3 then (
      if dI δ x3 x7 then (
      if dA δ 6 x4 then (
      if dI δ x4 x7 then (
      (δ.P x4 ((x7).toNat)).bind fun v7 =>
      if dA δ 0 v7 then (
      if dI δ v7 x14 then (
      if (-2147483648 ≤ (δ.I v7 ((x14).toNat)) ∧ (δ.I v7 ((x14).toNat)) ≤ 2147483647) then (
      if 0 ≤ ((δ.I x3 ((x7).toNat)) * (δ.I v7 ((x14).toNat))) ∧ ((δ.I x3 ((x7).toNat)) * (δ.I v7 ((x14).toNat))) ≤ 9223372036854775807 ∧ 0 < x8 ∧ x8 ≤ 9223372036854775807 then (
      (δ.P x4 ((x7).toNat)).bind fun v13 =>
      if dA δ 0 v13 then (
      if dI δ v13 x15 then (
      if (-2147483648 ≤ (δ.I v13 ((x15).toNat)) ∧ (δ.I v13 ((x15).toNat)) ≤ 2147483647) then (
      if 0 ≤ ((δ.I x3 ((x7).toNat)) * (δ.I v13 ((x15).toNat))) ∧ ((δ.I x3 ((x7).toNat)) * (δ.I v13 ((x15).toNat))) ≤ 9223372036854775807 ∧ 0 < x8 ∧ x8 ≤ 9223372036854775807 then (
      (gm_99 x2 x7 x14 s).bind fun q19 =>
      if (-2147483648 ≤ q19.1 ∧ q19.1 ≤ 2147483647) then (
      (δ.P x4 ((x7).toNat)).bind fun v22 =>
      if dA δ 0 v22 then (
      if dI δ v22 x14 then (
      if (-2147483648 ≤ (δ.I v22 ((x14).toNat)) ∧ (δ.I v22 ((x14).toNat)) ≤ 2147483647) then (
      if 0 ≤ ((δ.I x3 ((x7).toNat)) * (δ.I v22 ((x14).toNat))) ∧ ((δ.I x3 ((x7).toNat)) * (δ.I v22 ((x14).toNat))) ≤ 9223372036854775807 ∧ 0 < x8 ∧ x8 ≤ 9223372036854775807 then (
      if (-9223372036854775808 ≤ q19.1 ∧ q19.1 ≤ 9223372036854775807) then (
      if (-9223372036854775808 ≤ (((δ.I x3 ((x7).toNat)) * (δ.I v22 ((x14).toNat))) / x8) ∧ (((δ.I x3 ((x7).toNat)) * (δ.I v22 ((x14).toNat))) / x8) ≤ 9223372036854775807) then (
      if q19.1 ≤ (((δ.I x3 ((x7).toNat)) * (δ.I v22 ((x14).toNat))) / x8) then (
        dm_254_416 L xs (dm_254_335 L xs k_311 n) x1 x2 x3 x4 x5 x7 x8 x14 x15 (((δ.I x3 ((x7).toNat)) * (δ.I v7 ((x14).toNat))) % x8) (((δ.I x3 ((x7).toNat)) * (δ.I v13 ((x15).toNat))) % x8) 0 q19.2 δ) else (
        dm_254_416 L xs (dm_254_335 L xs k_311 n) x1 x2 x3 x4 x5 x7 x8 x14 x15 (((δ.I x3 ((x7).toNat)) * (δ.I v7 ((x14).toNat))) % x8) (((δ.I x3 ((x7).toNat)) * (δ.I v13 ((x15).toNat))) % x8) 1 q19.2 δ)) else none) else none) else none) else none) else none) else none) else none) else none) else none) else none) else none) else none) else none) else none) else none) else none) else none) else none) else none)) else none
theorem de_254_335 {z : iv_Z} {L : Nat} {xs : Nat → Int32} (hz : dZ z L xs) {d : Nat} (hd : 102 ≤ d) {k_311 : Nat → Int → Nat → Nat → Int → Int → Int → Int → gx_S → dS → Option (Int × DS)} (hk_311 : ∀ (x1 : Nat) (x2 : Int) (x3 : Nat) (x4 : Nat) (x5 : Int) (x7 : Int) (x8 : Int) (x14 : Int) (o10 : Option Value) (o12 : Option Value) (o15 : Option Value) (o16 : Option Value) (o18 : Option Value) (o20 : Option Value) (o21 : Option Value) (s : gx_S) (δ : dS) (q : Int × DS), k_311 x1 x2 x3 x4 x5 x7 x8 x14 s δ = some q → dE z 254 d 311 [some (.ref 0), some (.ref x1), some (.int (Int32.ofInt x2)), some (.ref x3), some (.ref x4), some (.long (Int64.ofInt x5)), none, some (.int (Int32.ofInt x7)), some (.long (Int64.ofInt x8)), none, o10, none, o12, none, some (.int (Int32.ofInt x14)), o15, o16, none, o18, none, o20, o21, none] [] (s, δ) (some (.int (Int32.ofInt q.1))) q.2) : ∀ (n : Nat) (x1 : Nat) (x2 : Int) (x3 : Nat) (x4 : Nat) (x5 : Int) (x7 : Int) (x8 : Int) (x14 : Int) (x15 : Int) (o10 : Option Value) (o12 : Option Value) (o16 : Option Value) (o18 : Option Value) (o20 : Option Value) (o21 : Option Value) (s : gx_S) (δ : dS) (q : Int × DS), dm_254_335 L xs k_311 n x1 x2 x3 x4 x5 x7 x8 x14 x15 s δ = some q → dE z 254 d 335 [some (.ref 0), some (.ref x1), some (.int (Int32.ofInt x2)), some (.ref x3), some (.ref x4), some (.long (Int64.ofInt x5)), none, some (.int (Int32.ofInt x7)), some (.long (Int64.ofInt x8)), none, o10, none, o12, none, some (.int (Int32.ofInt x14)), some (.int (Int32.ofInt x15)), o16, none, o18, none, o20, o21, none] [] (s, δ) (some (.int (Int32.ofInt q.1))) q.2 := by
  intro n
  induction n with
  | zero =>
    intro x1 x2 x3 x4 x5 x7 x8 x14 x15 o10 o12 o16 o18 o20 o21 s δ q h
    rw [dm_254_335] at h
    exact fx_no h
  | succ n ih =>
    intro x1 x2 x3 x4 x5 x7 x8 x14 x15 o10 o12 o16 o18 o20 o21 s δ q h
    rw [dm_254_335] at h
    refine ds_iload (k := 15) (p := 337) (by decide +kernel) rfl rfl ?_
    refine ds_bipush (n := 9) (p := 339) (by decide +kernel) rfl dkb_9 ?_
    obtain ⟨z1, h⟩ := fx_gd h
    by_cases c2 : 9 ≤ x15
    · rw [if_pos c2] at h
      refine ds_icmp_ge_t (off := 158) (t := 497) (by decide +kernel) (by decide +kernel) ((gc_le rfl rfl (by decide) z1).mpr c2) ?_
      refine ds_iinc (k := 14) (n := 1) (p := 500) (M := 23) (y := Int32.ofInt (x14 + 1)) (al' := [some (.ref 0), some (.ref x1), some (.int (Int32.ofInt x2)), some (.ref x3), some (.ref x4), some (.long (Int64.ofInt x5)), none, some (.int (Int32.ofInt x7)), some (.long (Int64.ofInt x8)), none, o10, none, o12, none, some (.int (Int32.ofInt (x14 + 1))), some (.int (Int32.ofInt x15)), o16, none, o18, none, o20, o21, none]) (by decide +kernel) rfl rfl mx_254 rfl rfl (ga_add rfl rfl) rfl ?_
      refine ds_goto (off := -189) (p := 311) (by decide +kernel) (by decide +kernel) ?_
      exact hk_311 _ _ _ _ _ _ _ _ _ _ _ _ _ _ _ _ _ _ h
    · rw [if_neg c2] at h
      refine ds_icmp_ge_f (off := 158) (t := 497) (p := 342) (by decide +kernel) (by decide +kernel) rfl (fun q => c2 ((gc_le rfl rfl (by decide) z1).mp q)) ?_
      refine ds_aload_n (k := 3) (p := 343) (by decide +kernel) rfl rfl ?_
      refine ds_iload (k := 7) (p := 345) (by decide +kernel) rfl rfl ?_
      obtain ⟨z3, h⟩ := fx_gd h
      obtain ⟨z4, h⟩ := fx_gd h
      refine ds_laload (p := 346) (by decide +kernel) rfl z3 z4 ?_
      refine ds_aload (k := 4) (p := 348) (by decide +kernel) rfl rfl ?_
      refine ds_iload (k := 7) (p := 350) (by decide +kernel) rfl rfl ?_
      obtain ⟨z5, h⟩ := fx_gd h
      obtain ⟨z6, h⟩ := fx_gd h
      obtain ⟨v7, w8, h⟩ := fx_bd h
      refine ds_aaload (t := 6) (p := 351) (by decide +kernel) rfl (by decide +kernel) z5 z6 w8 ?_
      refine ds_iload (k := 14) (p := 353) (by decide +kernel) rfl rfl ?_
      obtain ⟨z9, h⟩ := fx_gd h
      obtain ⟨z10, h⟩ := fx_gd h
      refine ds_iaload (p := 354) (by decide +kernel) rfl z9 z10 ?_
      obtain ⟨z11, h⟩ := fx_gd h
      refine ds_i2l (p := 355) (c := Int64.ofInt (δ.I v7 ((x14).toNat))) (by decide +kernel) rfl (ga_i2l rfl z11) ?_
      refine ds_lmul (p := 356) (c := Int64.ofInt ((δ.I x3 ((x7).toNat)) * (δ.I v7 ((x14).toNat)))) (by decide +kernel) rfl (gal_mul rfl rfl) ?_
      refine ds_lload (k := 8) (p := 358) (by decide +kernel) rfl rfl ?_
      obtain ⟨z12, h⟩ := fx_gd h
      refine ds_lrem (p := 359) (c := Int64.ofInt (((δ.I x3 ((x7).toNat)) * (δ.I v7 ((x14).toNat))) % x8)) (by decide +kernel) rfl (gcl_nz rfl (x := ((δ.I x3 ((x7).toNat)) * (δ.I v7 ((x14).toNat)))) z12) (gal_rem rfl rfl z12) ?_
      refine ds_lstore (k := 16) (p := 361) (M := 23) (al' := [some (.ref 0), some (.ref x1), some (.int (Int32.ofInt x2)), some (.ref x3), some (.ref x4), some (.long (Int64.ofInt x5)), none, some (.int (Int32.ofInt x7)), some (.long (Int64.ofInt x8)), none, o10, none, o12, none, some (.int (Int32.ofInt x14)), some (.int (Int32.ofInt x15)), some (.long (Int64.ofInt (((δ.I x3 ((x7).toNat)) * (δ.I v7 ((x14).toNat))) % x8))), none, o18, none, o20, o21, none]) (by decide +kernel) rfl mx_254 rfl rfl ?_
      refine ds_aload_n (k := 3) (p := 362) (by decide +kernel) rfl rfl ?_
      refine ds_iload (k := 7) (p := 364) (by decide +kernel) rfl rfl ?_
      refine ds_laload (p := 365) (by decide +kernel) rfl z3 z4 ?_
      refine ds_aload (k := 4) (p := 367) (by decide +kernel) rfl rfl ?_
      refine ds_iload (k := 7) (p := 369) (by decide +kernel) rfl rfl ?_
      obtain ⟨v13, w14, h⟩ := fx_bd h
      refine ds_aaload (t := 6) (p := 370) (by decide +kernel) rfl (by decide +kernel) z5 z6 w14 ?_
      refine ds_iload (k := 15) (p := 372) (by decide +kernel) rfl rfl ?_
      obtain ⟨z15, h⟩ := fx_gd h
      obtain ⟨z16, h⟩ := fx_gd h
      refine ds_iaload (p := 373) (by decide +kernel) rfl z15 z16 ?_
      obtain ⟨z17, h⟩ := fx_gd h
      refine ds_i2l (p := 374) (c := Int64.ofInt (δ.I v13 ((x15).toNat))) (by decide +kernel) rfl (ga_i2l rfl z17) ?_
      refine ds_lmul (p := 375) (c := Int64.ofInt ((δ.I x3 ((x7).toNat)) * (δ.I v13 ((x15).toNat)))) (by decide +kernel) rfl (gal_mul rfl rfl) ?_
      refine ds_lload (k := 8) (p := 377) (by decide +kernel) rfl rfl ?_
      obtain ⟨z18, h⟩ := fx_gd h
      refine ds_lrem (p := 378) (c := Int64.ofInt (((δ.I x3 ((x7).toNat)) * (δ.I v13 ((x15).toNat))) % x8)) (by decide +kernel) rfl (gcl_nz rfl (x := ((δ.I x3 ((x7).toNat)) * (δ.I v13 ((x15).toNat)))) z18) (gal_rem rfl rfl z18) ?_
      refine ds_lstore (k := 18) (p := 380) (M := 23) (al' := [some (.ref 0), some (.ref x1), some (.int (Int32.ofInt x2)), some (.ref x3), some (.ref x4), some (.long (Int64.ofInt x5)), none, some (.int (Int32.ofInt x7)), some (.long (Int64.ofInt x8)), none, o10, none, o12, none, some (.int (Int32.ofInt x14)), some (.int (Int32.ofInt x15)), some (.long (Int64.ofInt (((δ.I x3 ((x7).toNat)) * (δ.I v7 ((x14).toNat))) % x8))), none, some (.long (Int64.ofInt (((δ.I x3 ((x7).toNat)) * (δ.I v13 ((x15).toNat))) % x8))), none, o20, o21, none]) (by decide +kernel) rfl mx_254 rfl rfl ?_
      refine ds_aload_n (k := 0) (p := 381) (by decide +kernel) rfl rfl ?_
      refine ds_iload_n (k := 2) (p := 382) (by decide +kernel) rfl rfl ?_
      refine ds_iload (k := 7) (p := 384) (by decide +kernel) rfl rfl ?_
      refine ds_iload (k := 14) (p := 386) (by decide +kernel) rfl rfl ?_
      obtain ⟨q19, w20, h⟩ := fx_bd h
      refine ds_callV (idx := 163) (mj := 99) (ci := 9) (na := 3) (mx := 12) (p := 389) (args := [.ref 0, .int (Int32.ofInt x2), .int (Int32.ofInt x7), .int (Int32.ofInt x14)]) (rest := []) (al2 := [some (.ref 0), some (.int (Int32.ofInt x2)), some (.int (Int32.ofInt x7)), some (.int (Int32.ofInt x14)), none, none, none, none, none, none, none, none]) (S2 := (q19.2, δ)) (by decide +kernel) rfl (by decide +kernel) (Or.inl ⟨_, rfl, Or.inr fo_0⟩) rfl rfl rfl rfl rfl rfl (by omega) (fun d' hd' => dx_cls (fe_99 (by omega) (gf_99 rfl rfl rfl rfl w20))) rfl ?_
      obtain ⟨z21, h⟩ := fx_gd h
      refine ds_i2l (p := 390) (c := Int64.ofInt q19.1) (by decide +kernel) rfl (ga_i2l rfl z21) ?_
      refine ds_aload_n (k := 3) (p := 391) (by decide +kernel) rfl rfl ?_
      refine ds_iload (k := 7) (p := 393) (by decide +kernel) rfl rfl ?_
      refine ds_laload (p := 394) (by decide +kernel) rfl z3 z4 ?_
      refine ds_aload (k := 4) (p := 396) (by decide +kernel) rfl rfl ?_
      refine ds_iload (k := 7) (p := 398) (by decide +kernel) rfl rfl ?_
      obtain ⟨v22, w23, h⟩ := fx_bd h
      refine ds_aaload (t := 6) (p := 399) (by decide +kernel) rfl (by decide +kernel) z5 z6 w23 ?_
      refine ds_iload (k := 14) (p := 401) (by decide +kernel) rfl rfl ?_
      obtain ⟨z24, h⟩ := fx_gd h
      obtain ⟨z25, h⟩ := fx_gd h
      refine ds_iaload (p := 402) (by decide +kernel) rfl z24 z25 ?_
      obtain ⟨z26, h⟩ := fx_gd h
      refine ds_i2l (p := 403) (c := Int64.ofInt (δ.I v22 ((x14).toNat))) (by decide +kernel) rfl (ga_i2l rfl z26) ?_
      refine ds_lmul (p := 404) (c := Int64.ofInt ((δ.I x3 ((x7).toNat)) * (δ.I v22 ((x14).toNat)))) (by decide +kernel) rfl (gal_mul rfl rfl) ?_
      refine ds_lload (k := 8) (p := 406) (by decide +kernel) rfl rfl ?_
      obtain ⟨z27, h⟩ := fx_gd h
      refine ds_ldiv (p := 407) (c := Int64.ofInt (((δ.I x3 ((x7).toNat)) * (δ.I v22 ((x14).toNat))) / x8)) (by decide +kernel) rfl (gcl_nz rfl (x := ((δ.I x3 ((x7).toNat)) * (δ.I v22 ((x14).toNat)))) z27) (gal_div rfl rfl z27) ?_
      obtain ⟨z28, h⟩ := fx_gd h
      obtain ⟨z29, h⟩ := fx_gd h
      by_cases c30 : q19.1 ≤ (((δ.I x3 ((x7).toNat)) * (δ.I v22 ((x14).toNat))) / x8)
      · rw [if_pos c30] at h
        refine ds_lcmp_le_t (off := 7) (t := 415) (by decide +kernel) (by decide +kernel) (by decide +kernel) ((gcl_le rfl rfl z28 z29).mpr c30) ?_
        refine ds_iconst (n := 0) (p := 416) (by decide +kernel) rfl rfl ?_
        exact de_254_416 hz hd ih _ _ _ _ _ _ _ _ _ _ _ _ _ _ _ _ _ _ _ h
      · rw [if_neg c30] at h
        refine ds_lcmp_le_f (off := 7) (t := 415) (p := 411) (by decide +kernel) (by decide +kernel) (by decide +kernel) rfl (fun q => c30 ((gcl_le rfl rfl z28 z29).mp q)) ?_
        refine ds_iconst (n := 1) (p := 412) (by decide +kernel) rfl rfl ?_
        refine ds_goto (off := 4) (p := 416) (by decide +kernel) (by decide +kernel) ?_
        exact de_254_416 hz hd ih _ _ _ _ _ _ _ _ _ _ _ _ _ _ _ _ _ _ _ h
def dm_254_311 (L : Nat) (xs : Nat → Int32) (k_19 : Nat → Int → Nat → Nat → Int → Int → gx_S → dS → Option (Int × DS)) : Nat → Nat → Int → Nat → Nat → Int → Int → Int → Int → gx_S → dS → Option (Int × DS)
  | 0, _, _, _, _, _, _, _, _, _, _ => none
  | n + 1, x1, x2, x3, x4, x5, x7, x8, x14, s, δ =>
    if (-2147483648 ≤ x14 ∧ x14 ≤ 2147483647) then (
    if 9 ≤ x14 then (
      dm_254_503 L xs k_19 x1 x2 x3 x4 x5 x7 s δ) else (
      if dO δ x1 10 then (
      if (-2147483648 ≤ (δ.I x1 2) ∧ (δ.I x1 2) ≤ 2147483647) then (
      if ¬ (δ.I x1 2) = 0 then (
        dm_254_503 L xs k_19 x1 x2 x3 x4 x5 x7 s δ) else (
        if (-9223372036854775808 ≤ x8 ∧ x8 ≤ 9223372036854775807) then (
        if x8 ≤ 0 then (
          dm_254_503 L xs k_19 x1 x2 x3 x4 x5 x7 s δ) else (
          dm_254_335 L xs (dm_254_311 L xs k_19 n) 100000 x1 x2 x3 x4 x5 x7 x8 x14 0 s δ)) else none)) else none) else none)) else none
theorem de_254_311 {z : iv_Z} {L : Nat} {xs : Nat → Int32} (hz : dZ z L xs) {d : Nat} (hd : 102 ≤ d) {k_19 : Nat → Int → Nat → Nat → Int → Int → gx_S → dS → Option (Int × DS)} (hk_19 : ∀ (x1 : Nat) (x2 : Int) (x3 : Nat) (x4 : Nat) (x5 : Int) (x7 : Int) (o8 : Option Value) (o10 : Option Value) (o12 : Option Value) (o14 : Option Value) (o15 : Option Value) (o16 : Option Value) (o18 : Option Value) (o20 : Option Value) (o21 : Option Value) (s : gx_S) (δ : dS) (q : Int × DS), k_19 x1 x2 x3 x4 x5 x7 s δ = some q → dE z 254 d 19 [some (.ref 0), some (.ref x1), some (.int (Int32.ofInt x2)), some (.ref x3), some (.ref x4), some (.long (Int64.ofInt x5)), none, some (.int (Int32.ofInt x7)), o8, none, o10, none, o12, none, o14, o15, o16, none, o18, none, o20, o21, none] [] (s, δ) (some (.int (Int32.ofInt q.1))) q.2) : ∀ (n : Nat) (x1 : Nat) (x2 : Int) (x3 : Nat) (x4 : Nat) (x5 : Int) (x7 : Int) (x8 : Int) (x14 : Int) (o10 : Option Value) (o12 : Option Value) (o15 : Option Value) (o16 : Option Value) (o18 : Option Value) (o20 : Option Value) (o21 : Option Value) (s : gx_S) (δ : dS) (q : Int × DS), dm_254_311 L xs k_19 n x1 x2 x3 x4 x5 x7 x8 x14 s δ = some q → dE z 254 d 311 [some (.ref 0), some (.ref x1), some (.int (Int32.ofInt x2)), some (.ref x3), some (.ref x4), some (.long (Int64.ofInt x5)), none, some (.int (Int32.ofInt x7)), some (.long (Int64.ofInt x8)), none, o10, none, o12, none, some (.int (Int32.ofInt x14)), o15, o16, none, o18, none, o20, o21, none] [] (s, δ) (some (.int (Int32.ofInt q.1))) q.2 := by
  intro n
  induction n with
  | zero =>
    intro x1 x2 x3 x4 x5 x7 x8 x14 o10 o12 o15 o16 o18 o20 o21 s δ q h
    rw [dm_254_311] at h
    exact fx_no h
  | succ n ih =>
    intro x1 x2 x3 x4 x5 x7 x8 x14 o10 o12 o15 o16 o18 o20 o21 s δ q h
    rw [dm_254_311] at h
    refine ds_iload (k := 14) (p := 313) (by decide +kernel) rfl rfl ?_
    refine ds_bipush (n := 9) (p := 315) (by decide +kernel) rfl dkb_9 ?_
    obtain ⟨z1, h⟩ := fx_gd h
    by_cases c2 : 9 ≤ x14
    · rw [if_pos c2] at h
      refine ds_icmp_ge_t (off := 188) (t := 503) (by decide +kernel) (by decide +kernel) ((gc_le rfl rfl (by decide) z1).mpr c2) ?_
      exact de_254_503 hz hd hk_19 _ _ _ _ _ _ _ _ _ _ _ _ _ _ _ _ _ _ h
    · rw [if_neg c2] at h
      refine ds_icmp_ge_f (off := 188) (t := 503) (p := 318) (by decide +kernel) (by decide +kernel) rfl (fun q => c2 ((gc_le rfl rfl (by decide) z1).mp q)) ?_
      refine ds_aload_n (k := 1) (p := 319) (by decide +kernel) rfl rfl ?_
      obtain ⟨z3, h⟩ := fx_gd h
      refine ds_gfi (idx := 100) (ci := 10) (j := 2) (p := 322) (by decide +kernel) rfl (by decide +kernel) z3 ?_
      obtain ⟨z4, h⟩ := fx_gd h
      by_cases c5 : ¬ (δ.I x1 2) = 0
      · rw [if_pos c5] at h
        refine ds_if_ne_t (off := 181) (t := 503) (by decide +kernel) (by decide +kernel) ((gc_ne rfl rfl z4 (by decide)).mpr c5) ?_
        exact de_254_503 hz hd hk_19 _ _ _ _ _ _ _ _ _ _ _ _ _ _ _ _ _ _ h
      · rw [if_neg c5] at h
        refine ds_if_ne_f (off := 181) (t := 503) (p := 325) (by decide +kernel) (by decide +kernel) rfl (fun q => c5 ((gc_ne rfl rfl z4 (by decide)).mp q)) ?_
        refine ds_lload (k := 8) (p := 327) (by decide +kernel) rfl rfl ?_
        refine ds_lconst (n := 0) (p := 328) (by decide +kernel) rfl dl_0 ?_
        obtain ⟨z6, h⟩ := fx_gd h
        by_cases c7 : x8 ≤ 0
        · rw [if_pos c7] at h
          refine ds_lcmp_le_t (off := 174) (t := 503) (by decide +kernel) (by decide +kernel) (by decide +kernel) ((gcl_le rfl rfl z6 (by decide)).mpr c7) ?_
          exact de_254_503 hz hd hk_19 _ _ _ _ _ _ _ _ _ _ _ _ _ _ _ _ _ _ h
        · rw [if_neg c7] at h
          refine ds_lcmp_le_f (off := 174) (t := 503) (p := 332) (by decide +kernel) (by decide +kernel) (by decide +kernel) rfl (fun q => c7 ((gcl_le rfl rfl z6 (by decide)).mp q)) ?_
          refine ds_iconst (n := 0) (p := 333) (by decide +kernel) rfl rfl ?_
          refine ds_istore (k := 15) (p := 335) (M := 23) (al' := [some (.ref 0), some (.ref x1), some (.int (Int32.ofInt x2)), some (.ref x3), some (.ref x4), some (.long (Int64.ofInt x5)), none, some (.int (Int32.ofInt x7)), some (.long (Int64.ofInt x8)), none, o10, none, o12, none, some (.int (Int32.ofInt x14)), some (.int (Int32.ofInt 0)), o16, none, o18, none, o20, o21, none]) (by decide +kernel) rfl mx_254 rfl rfl ?_
          exact de_254_335 hz hd ih 100000 _ _ _ _ _ _ _ _ _ _ _ _ _ _ _ _ _ _ h
def dm_254_281 (L : Nat) (xs : Nat → Int32) (k_80 : Nat → Int → Nat → Nat → Int → Int → Int → Int → Int → Int → gx_S → dS → Option (Int × DS)) (x1 : Nat) (x2 : Int) (x3 : Nat) (x4 : Nat) (x5 : Int) (x7 : Int) (x8 : Int) (x10 : Int) (x12 : Int) (x14 : Int) (s : gx_S) (δ : dS) : Option (Int × DS) :=
  k_80 x1 x2 x3 x4 x5 x7 x8 x10 x12 (x14 + 1) s δ
theorem de_254_281 {z : iv_Z} {L : Nat} {xs : Nat → Int32} (hz : dZ z L xs) {d : Nat} (hd : 102 ≤ d) {k_80 : Nat → Int → Nat → Nat → Int → Int → Int → Int → Int → Int → gx_S → dS → Option (Int × DS)} (hk_80 : ∀ (x1 : Nat) (x2 : Int) (x3 : Nat) (x4 : Nat) (x5 : Int) (x7 : Int) (x8 : Int) (x10 : Int) (x12 : Int) (x14 : Int) (o15 : Option Value) (o16 : Option Value) (o18 : Option Value) (o20 : Option Value) (o21 : Option Value) (s : gx_S) (δ : dS) (q : Int × DS), k_80 x1 x2 x3 x4 x5 x7 x8 x10 x12 x14 s δ = some q → dE z 254 d 80 [some (.ref 0), some (.ref x1), some (.int (Int32.ofInt x2)), some (.ref x3), some (.ref x4), some (.long (Int64.ofInt x5)), none, some (.int (Int32.ofInt x7)), some (.long (Int64.ofInt x8)), none, some (.long (Int64.ofInt x10)), none, some (.long (Int64.ofInt x12)), none, some (.int (Int32.ofInt x14)), o15, o16, none, o18, none, o20, o21, none] [] (s, δ) (some (.int (Int32.ofInt q.1))) q.2) (x1 : Nat) (x2 : Int) (x3 : Nat) (x4 : Nat) (x5 : Int) (x7 : Int) (x8 : Int) (x10 : Int) (x12 : Int) (x14 : Int) (o15 : Option Value) (o16 : Option Value) (o18 : Option Value) (o20 : Option Value) (o21 : Option Value) (s : gx_S) (δ : dS) (q : Int × DS) (h : dm_254_281 L xs k_80  x1 x2 x3 x4 x5 x7 x8 x10 x12 x14 s δ = some q) : dE z 254 d 281 [some (.ref 0), some (.ref x1), some (.int (Int32.ofInt x2)), some (.ref x3), some (.ref x4), some (.long (Int64.ofInt x5)), none, some (.int (Int32.ofInt x7)), some (.long (Int64.ofInt x8)), none, some (.long (Int64.ofInt x10)), none, some (.long (Int64.ofInt x12)), none, some (.int (Int32.ofInt x14)), o15, o16, none, o18, none, o20, o21, none] [] (s, δ) (some (.int (Int32.ofInt q.1))) q.2 := by
  unfold dm_254_281 at h
  refine ds_iinc (k := 14) (n := 1) (p := 284) (M := 23) (y := Int32.ofInt (x14 + 1)) (al' := [some (.ref 0), some (.ref x1), some (.int (Int32.ofInt x2)), some (.ref x3), some (.ref x4), some (.long (Int64.ofInt x5)), none, some (.int (Int32.ofInt x7)), some (.long (Int64.ofInt x8)), none, some (.long (Int64.ofInt x10)), none, some (.long (Int64.ofInt x12)), none, some (.int (Int32.ofInt (x14 + 1))), o15, o16, none, o18, none, o20, o21, none]) (by decide +kernel) rfl rfl mx_254 rfl rfl (ga_add rfl rfl) rfl ?_
  refine ds_goto (off := -204) (p := 80) (by decide +kernel) (by decide +kernel) ?_
  exact hk_80 _ _ _ _ _ _ _ _ _ _ _ _ _ _ _ _ _ _ h
def dm_254_201 (L : Nat) (xs : Nat → Int32) (k_80 : Nat → Int → Nat → Nat → Int → Int → Int → Int → Int → Int → gx_S → dS → Option (Int × DS)) (x1 : Nat) (x2 : Int) (x3 : Nat) (x4 : Nat) (x5 : Int) (x7 : Int) (x8 : Int) (x10 : Int) (x12 : Int) (x14 : Int) (x15 : Int) (x16 : Int) (s : gx_S) (δ : dS) : Option (Int × DS) :=
  if dA δ 6 x4 then (
  if dI δ x4 x7 then (
  (δ.P x4 ((x7).toNat)).bind fun v3 =>
  if dA δ 0 v3 then (
  if dI δ v3 x14 then (
  if (-2147483648 ≤ (δ.I v3 ((x14).toNat)) ∧ (δ.I v3 ((x14).toNat)) ≤ 2147483647) then (
  (dm_251 L xs (δ.I v3 ((x14).toNat)) x8 s δ).bind fun q8 =>
  (gm_98 x2 x7 x14 0 q8.2.1).bind fun q10 =>
  if (-2147483648 ≤ q10.1 ∧ q10.1 ≤ 2147483647) then (
  if dA q8.2.2 6 x4 then (
  if dI q8.2.2 x4 x7 then (
  (q8.2.2.P x4 ((x7).toNat)).bind fun v15 =>
  if dA q8.2.2 0 v15 then (
  if dI q8.2.2 v15 x14 then (
  if (-2147483648 ≤ (q8.2.2.I v15 ((x14).toNat)) ∧ (q8.2.2.I v15 ((x14).toNat)) ≤ 2147483647) then (
  if 0 ≤ (q8.2.2.I v15 ((x14).toNat)) ∧ (q8.2.2.I v15 ((x14).toNat)) ≤ 9223372036854775807 ∧ 0 < q8.1 ∧ q8.1 ≤ 9223372036854775807 then (
  if (-9223372036854775808 ≤ q10.1 ∧ q10.1 ≤ 9223372036854775807) then (
  if (-9223372036854775808 ≤ ((q8.2.2.I v15 ((x14).toNat)) / q8.1) ∧ ((q8.2.2.I v15 ((x14).toNat)) / q8.1) ≤ 9223372036854775807) then (
  if ¬ q10.1 = ((q8.2.2.I v15 ((x14).toNat)) / q8.1) then (
    some (0, q10.2, q8.2.2)) else (
    (gm_98 x2 x7 x14 1 q10.2).bind fun q24 =>
    if (-2147483648 ≤ q24.1 ∧ q24.1 ≤ 2147483647) then (
    if 0 ≤ x8 ∧ x8 ≤ 9223372036854775807 ∧ 0 < q8.1 ∧ q8.1 ≤ 9223372036854775807 then (
    if (-9223372036854775808 ≤ q24.1 ∧ q24.1 ≤ 9223372036854775807) then (
    if (-9223372036854775808 ≤ (x8 / q8.1) ∧ (x8 / q8.1) ≤ 9223372036854775807) then (
    if q24.1 = (x8 / q8.1) then (
      if (-2147483648 ≤ x15 ∧ x15 ≤ 2147483647) then (
      if (-9223372036854775808 ≤ x15 ∧ x15 ≤ 9223372036854775807) then (
      if (-9223372036854775808 ≤ x16 ∧ x16 ≤ 9223372036854775807) then (
      if x15 ≤ x16 then (
        dm_254_281 L xs k_80 x1 x2 x3 x4 x5 x7 x8 x10 x12 x14 q24.2 q8.2.2) else (
        dm_254_281 L xs k_80 x1 x2 x3 x4 x5 x7 x8 x10 (x12 + 1) x14 q24.2 q8.2.2)) else none) else none) else none) else (
      some (0, q24.2, q8.2.2))) else none) else none) else none) else none)) else none) else none) else none) else none) else none) else none) else none) else none) else none) else none) else none) else none) else none) else none
theorem de_254_201 {z : iv_Z} {L : Nat} {xs : Nat → Int32} (hz : dZ z L xs) {d : Nat} (hd : 102 ≤ d) {k_80 : Nat → Int → Nat → Nat → Int → Int → Int → Int → Int → Int → gx_S → dS → Option (Int × DS)} (hk_80 : ∀ (x1 : Nat) (x2 : Int) (x3 : Nat) (x4 : Nat) (x5 : Int) (x7 : Int) (x8 : Int) (x10 : Int) (x12 : Int) (x14 : Int) (o15 : Option Value) (o16 : Option Value) (o18 : Option Value) (o20 : Option Value) (o21 : Option Value) (s : gx_S) (δ : dS) (q : Int × DS), k_80 x1 x2 x3 x4 x5 x7 x8 x10 x12 x14 s δ = some q → dE z 254 d 80 [some (.ref 0), some (.ref x1), some (.int (Int32.ofInt x2)), some (.ref x3), some (.ref x4), some (.long (Int64.ofInt x5)), none, some (.int (Int32.ofInt x7)), some (.long (Int64.ofInt x8)), none, some (.long (Int64.ofInt x10)), none, some (.long (Int64.ofInt x12)), none, some (.int (Int32.ofInt x14)), o15, o16, none, o18, none, o20, o21, none] [] (s, δ) (some (.int (Int32.ofInt q.1))) q.2) (x1 : Nat) (x2 : Int) (x3 : Nat) (x4 : Nat) (x5 : Int) (x7 : Int) (x8 : Int) (x10 : Int) (x12 : Int) (x14 : Int) (x15 : Int) (x16 : Int) (o18 : Option Value) (o20 : Option Value) (o21 : Option Value) (s : gx_S) (δ : dS) (q : Int × DS) (h : dm_254_201 L xs k_80  x1 x2 x3 x4 x5 x7 x8 x10 x12 x14 x15 x16 s δ = some q) : dE z 254 d 201 [some (.ref 0), some (.ref x1), some (.int (Int32.ofInt x2)), some (.ref x3), some (.ref x4), some (.long (Int64.ofInt x5)), none, some (.int (Int32.ofInt x7)), some (.long (Int64.ofInt x8)), none, some (.long (Int64.ofInt x10)), none, some (.long (Int64.ofInt x12)), none, some (.int (Int32.ofInt x14)), some (.int (Int32.ofInt x15)), some (.long (Int64.ofInt x16)), none, o18, none, o20, o21, none] [] (s, δ) (some (.int (Int32.ofInt q.1))) q.2 := by
  unfold dm_254_201 at h
  refine ds_aload (k := 4) (p := 203) (by decide +kernel) rfl rfl ?_
  refine ds_iload (k := 7) (p := 205) (by decide +kernel) rfl rfl ?_
  obtain ⟨z1, h⟩ := fx_gd h
  obtain ⟨z2, h⟩ := fx_gd h
  obtain ⟨v3, w4, h⟩ := fx_bd h
  refine ds_aaload (t := 6) (p := 206) (by decide +kernel) rfl (by decide +kernel) z1 z2 w4 ?_
  refine ds_iload (k := 14) (p := 208) (by decide +kernel) rfl rfl ?_
  obtain ⟨z5, h⟩ := fx_gd h
  obtain ⟨z6, h⟩ := fx_gd h
  refine ds_iaload (p := 209) (by decide +kernel) rfl z5 z6 ?_
  obtain ⟨z7, h⟩ := fx_gd h
  refine ds_i2l (p := 210) (c := Int64.ofInt (δ.I v3 ((x14).toNat))) (by decide +kernel) rfl (ga_i2l rfl z7) ?_
  refine ds_lload (k := 8) (p := 212) (by decide +kernel) rfl rfl ?_
  obtain ⟨q8, w9, h⟩ := fx_bd h
  refine ds_callS (idx := 134) (mj := 251) (na := 2) (mx := 4) (p := 215) (args := [.long (Int64.ofInt (δ.I v3 ((x14).toNat))), .long (Int64.ofInt x8)]) (rest := []) (al2 := [some (.long (Int64.ofInt (δ.I v3 ((x14).toNat)))), none, some (.long (Int64.ofInt x8)), none]) (S2 := q8.2) (by decide +kernel) rfl (by decide +kernel) rfl rfl rfl rfl rfl rfl (by omega) (fun d' hd' => de_251 hz (by omega) w9) rfl ?_
  refine ds_lstore (k := 20) (p := 217) (M := 23) (al' := [some (.ref 0), some (.ref x1), some (.int (Int32.ofInt x2)), some (.ref x3), some (.ref x4), some (.long (Int64.ofInt x5)), none, some (.int (Int32.ofInt x7)), some (.long (Int64.ofInt x8)), none, some (.long (Int64.ofInt x10)), none, some (.long (Int64.ofInt x12)), none, some (.int (Int32.ofInt x14)), some (.int (Int32.ofInt x15)), some (.long (Int64.ofInt x16)), none, o18, none, some (.long (Int64.ofInt q8.1)), none, none]) (by decide +kernel) rfl mx_254 rfl rfl ?_
  refine ds_aload_n (k := 0) (p := 218) (by decide +kernel) rfl rfl ?_
  refine ds_iload_n (k := 2) (p := 219) (by decide +kernel) rfl rfl ?_
  refine ds_iload (k := 7) (p := 221) (by decide +kernel) rfl rfl ?_
  refine ds_iload (k := 14) (p := 223) (by decide +kernel) rfl rfl ?_
  refine ds_iconst (n := 0) (p := 224) (by decide +kernel) rfl rfl ?_
  obtain ⟨q10, w11, h⟩ := fx_bd h
  refine ds_callV (idx := 166) (mj := 98) (ci := 9) (na := 4) (mx := 8) (p := 227) (args := [.ref 0, .int (Int32.ofInt x2), .int (Int32.ofInt x7), .int (Int32.ofInt x14), .int (Int32.ofInt 0)]) (rest := []) (al2 := [some (.ref 0), some (.int (Int32.ofInt x2)), some (.int (Int32.ofInt x7)), some (.int (Int32.ofInt x14)), some (.int (Int32.ofInt 0)), none, none, none]) (S2 := (q10.2, q8.2.2)) (by decide +kernel) rfl (by decide +kernel) (Or.inl ⟨_, rfl, Or.inr fo_0⟩) rfl rfl rfl rfl rfl rfl (by omega) (fun d' hd' => dx_cls (fe_98 (by omega) (gf_98 rfl rfl rfl rfl rfl w11))) rfl ?_
  obtain ⟨z12, h⟩ := fx_gd h
  refine ds_i2l (p := 228) (c := Int64.ofInt q10.1) (by decide +kernel) rfl (ga_i2l rfl z12) ?_
  refine ds_aload (k := 4) (p := 230) (by decide +kernel) rfl rfl ?_
  refine ds_iload (k := 7) (p := 232) (by decide +kernel) rfl rfl ?_
  obtain ⟨z13, h⟩ := fx_gd h
  obtain ⟨z14, h⟩ := fx_gd h
  obtain ⟨v15, w16, h⟩ := fx_bd h
  refine ds_aaload (t := 6) (p := 233) (by decide +kernel) rfl (by decide +kernel) z13 z14 w16 ?_
  refine ds_iload (k := 14) (p := 235) (by decide +kernel) rfl rfl ?_
  obtain ⟨z17, h⟩ := fx_gd h
  obtain ⟨z18, h⟩ := fx_gd h
  refine ds_iaload (p := 236) (by decide +kernel) rfl z17 z18 ?_
  obtain ⟨z19, h⟩ := fx_gd h
  refine ds_i2l (p := 237) (c := Int64.ofInt (q8.2.2.I v15 ((x14).toNat))) (by decide +kernel) rfl (ga_i2l rfl z19) ?_
  refine ds_lload (k := 20) (p := 239) (by decide +kernel) rfl rfl ?_
  obtain ⟨z20, h⟩ := fx_gd h
  refine ds_ldiv (p := 240) (c := Int64.ofInt ((q8.2.2.I v15 ((x14).toNat)) / q8.1)) (by decide +kernel) rfl (gcl_nz rfl (x := (q8.2.2.I v15 ((x14).toNat))) z20) (gal_div rfl rfl z20) ?_
  obtain ⟨z21, h⟩ := fx_gd h
  obtain ⟨z22, h⟩ := fx_gd h
  by_cases c23 : ¬ q10.1 = ((q8.2.2.I v15 ((x14).toNat)) / q8.1)
  · rw [if_pos c23] at h
    refine ds_lcmp_ne_t (off := 23) (t := 264) (by decide +kernel) (by decide +kernel) (by decide +kernel) ((gcl_ne rfl rfl z21 z22).mpr c23) ?_
    refine ds_iconst (n := 0) (p := 265) (by decide +kernel) rfl rfl ?_
    have h := Option.some.inj h
    subst h
    exact ds_iret (by decide +kernel) rt_254 (by decide +kernel)
  · rw [if_neg c23] at h
    refine ds_lcmp_ne_f (off := 23) (t := 264) (p := 244) (by decide +kernel) (by decide +kernel) (by decide +kernel) rfl (fun q => c23 ((gcl_ne rfl rfl z21 z22).mp q)) ?_
    refine ds_aload_n (k := 0) (p := 245) (by decide +kernel) rfl rfl ?_
    refine ds_iload_n (k := 2) (p := 246) (by decide +kernel) rfl rfl ?_
    refine ds_iload (k := 7) (p := 248) (by decide +kernel) rfl rfl ?_
    refine ds_iload (k := 14) (p := 250) (by decide +kernel) rfl rfl ?_
    refine ds_iconst (n := 1) (p := 251) (by decide +kernel) rfl rfl ?_
    obtain ⟨q24, w25, h⟩ := fx_bd h
    refine ds_callV (idx := 166) (mj := 98) (ci := 9) (na := 4) (mx := 8) (p := 254) (args := [.ref 0, .int (Int32.ofInt x2), .int (Int32.ofInt x7), .int (Int32.ofInt x14), .int (Int32.ofInt 1)]) (rest := []) (al2 := [some (.ref 0), some (.int (Int32.ofInt x2)), some (.int (Int32.ofInt x7)), some (.int (Int32.ofInt x14)), some (.int (Int32.ofInt 1)), none, none, none]) (S2 := (q24.2, q8.2.2)) (by decide +kernel) rfl (by decide +kernel) (Or.inl ⟨_, rfl, Or.inr fo_0⟩) rfl rfl rfl rfl rfl rfl (by omega) (fun d' hd' => dx_cls (fe_98 (by omega) (gf_98 rfl rfl rfl rfl rfl w25))) rfl ?_
    obtain ⟨z26, h⟩ := fx_gd h
    refine ds_i2l (p := 255) (c := Int64.ofInt q24.1) (by decide +kernel) rfl (ga_i2l rfl z26) ?_
    refine ds_lload (k := 8) (p := 257) (by decide +kernel) rfl rfl ?_
    refine ds_lload (k := 20) (p := 259) (by decide +kernel) rfl rfl ?_
    obtain ⟨z27, h⟩ := fx_gd h
    refine ds_ldiv (p := 260) (c := Int64.ofInt (x8 / q8.1)) (by decide +kernel) rfl (gcl_nz rfl (x := x8) z27) (gal_div rfl rfl z27) ?_
    obtain ⟨z28, h⟩ := fx_gd h
    obtain ⟨z29, h⟩ := fx_gd h
    by_cases c30 : q24.1 = (x8 / q8.1)
    · rw [if_pos c30] at h
      refine ds_lcmp_eq_t (off := 5) (t := 266) (by decide +kernel) (by decide +kernel) (by decide +kernel) ((gcl_eq rfl rfl z28 z29).mpr c30) ?_
      refine ds_iload (k := 15) (p := 268) (by decide +kernel) rfl rfl ?_
      obtain ⟨z31, h⟩ := fx_gd h
      refine ds_i2l (p := 269) (c := Int64.ofInt x15) (by decide +kernel) rfl (ga_i2l rfl z31) ?_
      refine ds_lload (k := 16) (p := 271) (by decide +kernel) rfl rfl ?_
      obtain ⟨z32, h⟩ := fx_gd h
      obtain ⟨z33, h⟩ := fx_gd h
      by_cases c34 : x15 ≤ x16
      · rw [if_pos c34] at h
        refine ds_lcmp_le_t (off := 9) (t := 281) (by decide +kernel) (by decide +kernel) (by decide +kernel) ((gcl_le rfl rfl z32 z33).mpr c34) ?_
        exact de_254_281 hz hd hk_80 _ _ _ _ _ _ _ _ _ _ _ _ _ _ _ _ _ _ h
      · rw [if_neg c34] at h
        refine ds_lcmp_le_f (off := 9) (t := 281) (p := 275) (by decide +kernel) (by decide +kernel) (by decide +kernel) rfl (fun q => c34 ((gcl_le rfl rfl z32 z33).mp q)) ?_
        refine ds_lload (k := 12) (p := 277) (by decide +kernel) rfl rfl ?_
        refine ds_lconst (n := 1) (p := 278) (by decide +kernel) rfl dl_1 ?_
        refine ds_ladd (p := 279) (c := Int64.ofInt (x12 + 1)) (by decide +kernel) rfl (gal_add rfl rfl) ?_
        refine ds_lstore (k := 12) (p := 281) (M := 23) (al' := [some (.ref 0), some (.ref x1), some (.int (Int32.ofInt x2)), some (.ref x3), some (.ref x4), some (.long (Int64.ofInt x5)), none, some (.int (Int32.ofInt x7)), some (.long (Int64.ofInt x8)), none, some (.long (Int64.ofInt x10)), none, some (.long (Int64.ofInt (x12 + 1))), none, some (.int (Int32.ofInt x14)), some (.int (Int32.ofInt x15)), some (.long (Int64.ofInt x16)), none, o18, none, some (.long (Int64.ofInt q8.1)), none, none]) (by decide +kernel) rfl mx_254 rfl rfl ?_
        exact de_254_281 hz hd hk_80 _ _ _ _ _ _ _ _ _ _ _ _ _ _ _ _ _ _ h
    · rw [if_neg c30] at h
      refine ds_lcmp_eq_f (off := 5) (t := 266) (p := 264) (by decide +kernel) (by decide +kernel) (by decide +kernel) rfl (fun q => c30 ((gcl_eq rfl rfl z28 z29).mp q)) ?_
      refine ds_iconst (n := 0) (p := 265) (by decide +kernel) rfl rfl ?_
      have h := Option.some.inj h
      subst h
      exact ds_iret (by decide +kernel) rt_254 (by decide +kernel)
def dm_254_80 (L : Nat) (xs : Nat → Int32) (k_19 : Nat → Int → Nat → Nat → Int → Int → gx_S → dS → Option (Int × DS)) : Nat → Nat → Int → Nat → Nat → Int → Int → Int → Int → Int → Int → gx_S → dS → Option (Int × DS)
  | 0, _, _, _, _, _, _, _, _, _, _, _, _ => none
  | n + 1, x1, x2, x3, x4, x5, x7, x8, x10, x12, x14, s, δ =>
    if (-2147483648 ≤ x14 ∧ x14 ≤ 2147483647) then (
    if 9 ≤ x14 then (
      if dA δ 1 x3 then (
      if dI δ x3 x7 then (
      if (-9223372036854775808 ≤ x10 ∧ x10 ≤ 9223372036854775807) then (
      if (-9223372036854775808 ≤ (δ.I x3 ((x7).toNat)) ∧ (δ.I x3 ((x7).toNat)) ≤ 9223372036854775807) then (
      if x10 = (δ.I x3 ((x7).toNat)) then (
        dm_254_311 L xs k_19 100000 x1 x2 x3 x4 (x5 + (δ.I x3 ((x7).toNat))) x7 x8 0 s δ) else (
        some (0, s, δ))) else none) else none) else none) else none) else (
      (gm_99 x2 x7 x14 s).bind fun q8 =>
      if (-2147483648 ≤ q8.1 ∧ q8.1 ≤ 2147483647) then (
      if (-9223372036854775808 ≤ x8 ∧ x8 ≤ 9223372036854775807) then (
      if ¬ x8 = 0 then (
        if dA δ 1 x3 then (
        if dI δ x3 x7 then (
        if dA δ 6 x4 then (
        if dI δ x4 x7 then (
        (δ.P x4 ((x7).toNat)).bind fun v17 =>
        if dA δ 0 v17 then (
        if dI δ v17 x14 then (
        if (-2147483648 ≤ (δ.I v17 ((x14).toNat)) ∧ (δ.I v17 ((x14).toNat)) ≤ 2147483647) then (
        if 0 ≤ ((δ.I x3 ((x7).toNat)) * (δ.I v17 ((x14).toNat))) ∧ ((δ.I x3 ((x7).toNat)) * (δ.I v17 ((x14).toNat))) ≤ 9223372036854775807 ∧ 0 < x8 ∧ x8 ≤ 9223372036854775807 then (
        (δ.P x4 ((x7).toNat)).bind fun v23 =>
        if dA δ 0 v23 then (
        if dI δ v23 x14 then (
        if (-2147483648 ≤ (δ.I v23 ((x14).toNat)) ∧ (δ.I v23 ((x14).toNat)) ≤ 2147483647) then (
        if 0 ≤ ((δ.I x3 ((x7).toNat)) * (δ.I v23 ((x14).toNat))) ∧ ((δ.I x3 ((x7).toNat)) * (δ.I v23 ((x14).toNat))) ≤ 9223372036854775807 ∧ 0 < x8 ∧ x8 ≤ 9223372036854775807 then (
        if (-9223372036854775808 ≤ q8.1 ∧ q8.1 ≤ 9223372036854775807) then (
        if (-9223372036854775808 ≤ (((δ.I x3 ((x7).toNat)) * (δ.I v17 ((x14).toNat))) / x8) ∧ (((δ.I x3 ((x7).toNat)) * (δ.I v17 ((x14).toNat))) / x8) ≤ 9223372036854775807) then (
        if q8.1 = (((δ.I x3 ((x7).toNat)) * (δ.I v17 ((x14).toNat))) / x8) then (
          dm_254_201 L xs (dm_254_80 L xs k_19 n) x1 x2 x3 x4 x5 x7 x8 (x10 + q8.1) x12 x14 q8.1 (((δ.I x3 ((x7).toNat)) * (δ.I v17 ((x14).toNat))) / x8) q8.2 δ) else (
          if (-9223372036854775808 ≤ (((δ.I x3 ((x7).toNat)) * (δ.I v23 ((x14).toNat))) % x8) ∧ (((δ.I x3 ((x7).toNat)) * (δ.I v23 ((x14).toNat))) % x8) ≤ 9223372036854775807) then (
          if (((δ.I x3 ((x7).toNat)) * (δ.I v23 ((x14).toNat))) % x8) = 0 then (
            some (0, q8.2, δ)) else (
            if (-9223372036854775808 ≤ ((((δ.I x3 ((x7).toNat)) * (δ.I v17 ((x14).toNat))) / x8) + 1) ∧ ((((δ.I x3 ((x7).toNat)) * (δ.I v17 ((x14).toNat))) / x8) + 1) ≤ 9223372036854775807) then (
            if q8.1 = ((((δ.I x3 ((x7).toNat)) * (δ.I v17 ((x14).toNat))) / x8) + 1) then (
              dm_254_201 L xs (dm_254_80 L xs k_19 n) x1 x2 x3 x4 x5 x7 x8 (x10 + q8.1) x12 x14 q8.1 (((δ.I x3 ((x7).toNat)) * (δ.I v17 ((x14).toNat))) / x8) q8.2 δ) else (
              some (0, q8.2, δ))) else none)) else none)) else none) else none) else none) else none) else none) else none) else none) else none) else none) else none) else none) else none) else none) else none) else (
        if ¬ q8.1 = 0 then (
          some (0, q8.2, δ)) else (
          (gm_98 x2 x7 x14 0 q8.2).bind fun q37 =>
          if (-2147483648 ≤ q37.1 ∧ q37.1 ≤ 2147483647) then (
          if q37.1 = (-1) then (
            dm_254_281 L xs (dm_254_80 L xs k_19 n) x1 x2 x3 x4 x5 x7 x8 (x10 + q8.1) x12 x14 q37.2 δ) else (
            some (0, q37.2, δ))) else none))) else none) else none)) else none
theorem de_254_80 {z : iv_Z} {L : Nat} {xs : Nat → Int32} (hz : dZ z L xs) {d : Nat} (hd : 102 ≤ d) {k_19 : Nat → Int → Nat → Nat → Int → Int → gx_S → dS → Option (Int × DS)} (hk_19 : ∀ (x1 : Nat) (x2 : Int) (x3 : Nat) (x4 : Nat) (x5 : Int) (x7 : Int) (o8 : Option Value) (o10 : Option Value) (o12 : Option Value) (o14 : Option Value) (o15 : Option Value) (o16 : Option Value) (o18 : Option Value) (o20 : Option Value) (o21 : Option Value) (s : gx_S) (δ : dS) (q : Int × DS), k_19 x1 x2 x3 x4 x5 x7 s δ = some q → dE z 254 d 19 [some (.ref 0), some (.ref x1), some (.int (Int32.ofInt x2)), some (.ref x3), some (.ref x4), some (.long (Int64.ofInt x5)), none, some (.int (Int32.ofInt x7)), o8, none, o10, none, o12, none, o14, o15, o16, none, o18, none, o20, o21, none] [] (s, δ) (some (.int (Int32.ofInt q.1))) q.2) : ∀ (n : Nat) (x1 : Nat) (x2 : Int) (x3 : Nat) (x4 : Nat) (x5 : Int) (x7 : Int) (x8 : Int) (x10 : Int) (x12 : Int) (x14 : Int) (o15 : Option Value) (o16 : Option Value) (o18 : Option Value) (o20 : Option Value) (o21 : Option Value) (s : gx_S) (δ : dS) (q : Int × DS), dm_254_80 L xs k_19 n x1 x2 x3 x4 x5 x7 x8 x10 x12 x14 s δ = some q → dE z 254 d 80 [some (.ref 0), some (.ref x1), some (.int (Int32.ofInt x2)), some (.ref x3), some (.ref x4), some (.long (Int64.ofInt x5)), none, some (.int (Int32.ofInt x7)), some (.long (Int64.ofInt x8)), none, some (.long (Int64.ofInt x10)), none, some (.long (Int64.ofInt x12)), none, some (.int (Int32.ofInt x14)), o15, o16, none, o18, none, o20, o21, none] [] (s, δ) (some (.int (Int32.ofInt q.1))) q.2 := by
  intro n
  induction n with
  | zero =>
    intro x1 x2 x3 x4 x5 x7 x8 x10 x12 x14 o15 o16 o18 o20 o21 s δ q h
    rw [dm_254_80] at h
    exact fx_no h
  | succ n ih =>
    intro x1 x2 x3 x4 x5 x7 x8 x10 x12 x14 o15 o16 o18 o20 o21 s δ q h
    rw [dm_254_80] at h
    refine ds_iload (k := 14) (p := 82) (by decide +kernel) rfl rfl ?_
    refine ds_bipush (n := 9) (p := 84) (by decide +kernel) rfl dkb_9 ?_
    obtain ⟨z1, h⟩ := fx_gd h
    by_cases c2 : 9 ≤ x14
    · rw [if_pos c2] at h
      refine ds_icmp_ge_t (off := 203) (t := 287) (by decide +kernel) (by decide +kernel) ((gc_le rfl rfl (by decide) z1).mpr c2) ?_
      refine ds_lload (k := 10) (p := 289) (by decide +kernel) rfl rfl ?_
      refine ds_aload_n (k := 3) (p := 290) (by decide +kernel) rfl rfl ?_
      refine ds_iload (k := 7) (p := 292) (by decide +kernel) rfl rfl ?_
      obtain ⟨z3, h⟩ := fx_gd h
      obtain ⟨z4, h⟩ := fx_gd h
      refine ds_laload (p := 293) (by decide +kernel) rfl z3 z4 ?_
      obtain ⟨z5, h⟩ := fx_gd h
      obtain ⟨z6, h⟩ := fx_gd h
      by_cases c7 : x10 = (δ.I x3 ((x7).toNat))
      · rw [if_pos c7] at h
        refine ds_lcmp_eq_t (off := 5) (t := 299) (by decide +kernel) (by decide +kernel) (by decide +kernel) ((gcl_eq rfl rfl z5 z6).mpr c7) ?_
        refine ds_lload (k := 5) (p := 301) (by decide +kernel) rfl rfl ?_
        refine ds_aload_n (k := 3) (p := 302) (by decide +kernel) rfl rfl ?_
        refine ds_iload (k := 7) (p := 304) (by decide +kernel) rfl rfl ?_
        refine ds_laload (p := 305) (by decide +kernel) rfl z3 z4 ?_
        refine ds_ladd (p := 306) (c := Int64.ofInt (x5 + (δ.I x3 ((x7).toNat)))) (by decide +kernel) rfl (gal_add rfl rfl) ?_
        refine ds_lstore (k := 5) (p := 308) (M := 23) (al' := [some (.ref 0), some (.ref x1), some (.int (Int32.ofInt x2)), some (.ref x3), some (.ref x4), some (.long (Int64.ofInt (x5 + (δ.I x3 ((x7).toNat))))), none, some (.int (Int32.ofInt x7)), some (.long (Int64.ofInt x8)), none, some (.long (Int64.ofInt x10)), none, some (.long (Int64.ofInt x12)), none, some (.int (Int32.ofInt x14)), o15, o16, none, o18, none, o20, o21, none]) (by decide +kernel) rfl mx_254 rfl rfl ?_
        refine ds_iconst (n := 0) (p := 309) (by decide +kernel) rfl rfl ?_
        refine ds_istore (k := 14) (p := 311) (M := 23) (al' := [some (.ref 0), some (.ref x1), some (.int (Int32.ofInt x2)), some (.ref x3), some (.ref x4), some (.long (Int64.ofInt (x5 + (δ.I x3 ((x7).toNat))))), none, some (.int (Int32.ofInt x7)), some (.long (Int64.ofInt x8)), none, some (.long (Int64.ofInt x10)), none, some (.long (Int64.ofInt x12)), none, some (.int (Int32.ofInt 0)), o15, o16, none, o18, none, o20, o21, none]) (by decide +kernel) rfl mx_254 rfl rfl ?_
        exact de_254_311 hz hd hk_19 100000 _ _ _ _ _ _ _ _ _ _ _ _ _ _ _ _ _ _ h
      · rw [if_neg c7] at h
        refine ds_lcmp_eq_f (off := 5) (t := 299) (p := 297) (by decide +kernel) (by decide +kernel) (by decide +kernel) rfl (fun q => c7 ((gcl_eq rfl rfl z5 z6).mp q)) ?_
        refine ds_iconst (n := 0) (p := 298) (by decide +kernel) rfl rfl ?_
        have h := Option.some.inj h
        subst h
        exact ds_iret (by decide +kernel) rt_254 (by decide +kernel)
    · rw [if_neg c2] at h
      refine ds_icmp_ge_f (off := 203) (t := 287) (p := 87) (by decide +kernel) (by decide +kernel) rfl (fun q => c2 ((gc_le rfl rfl (by decide) z1).mp q)) ?_
      refine ds_aload_n (k := 0) (p := 88) (by decide +kernel) rfl rfl ?_
      refine ds_iload_n (k := 2) (p := 89) (by decide +kernel) rfl rfl ?_
      refine ds_iload (k := 7) (p := 91) (by decide +kernel) rfl rfl ?_
      refine ds_iload (k := 14) (p := 93) (by decide +kernel) rfl rfl ?_
      obtain ⟨q8, w9, h⟩ := fx_bd h
      refine ds_callV (idx := 163) (mj := 99) (ci := 9) (na := 3) (mx := 12) (p := 96) (args := [.ref 0, .int (Int32.ofInt x2), .int (Int32.ofInt x7), .int (Int32.ofInt x14)]) (rest := []) (al2 := [some (.ref 0), some (.int (Int32.ofInt x2)), some (.int (Int32.ofInt x7)), some (.int (Int32.ofInt x14)), none, none, none, none, none, none, none, none]) (S2 := (q8.2, δ)) (by decide +kernel) rfl (by decide +kernel) (Or.inl ⟨_, rfl, Or.inr fo_0⟩) rfl rfl rfl rfl rfl rfl (by omega) (fun d' hd' => dx_cls (fe_99 (by omega) (gf_99 rfl rfl rfl rfl w9))) rfl ?_
      refine ds_istore (k := 15) (p := 98) (M := 23) (al' := [some (.ref 0), some (.ref x1), some (.int (Int32.ofInt x2)), some (.ref x3), some (.ref x4), some (.long (Int64.ofInt x5)), none, some (.int (Int32.ofInt x7)), some (.long (Int64.ofInt x8)), none, some (.long (Int64.ofInt x10)), none, some (.long (Int64.ofInt x12)), none, some (.int (Int32.ofInt x14)), some (.int (Int32.ofInt q8.1)), o16, none, o18, none, o20, o21, none]) (by decide +kernel) rfl mx_254 rfl rfl ?_
      refine ds_lload (k := 10) (p := 100) (by decide +kernel) rfl rfl ?_
      refine ds_iload (k := 15) (p := 102) (by decide +kernel) rfl rfl ?_
      obtain ⟨z10, h⟩ := fx_gd h
      refine ds_i2l (p := 103) (c := Int64.ofInt q8.1) (by decide +kernel) rfl (ga_i2l rfl z10) ?_
      refine ds_ladd (p := 104) (c := Int64.ofInt (x10 + q8.1)) (by decide +kernel) rfl (gal_add rfl rfl) ?_
      refine ds_lstore (k := 10) (p := 106) (M := 23) (al' := [some (.ref 0), some (.ref x1), some (.int (Int32.ofInt x2)), some (.ref x3), some (.ref x4), some (.long (Int64.ofInt x5)), none, some (.int (Int32.ofInt x7)), some (.long (Int64.ofInt x8)), none, some (.long (Int64.ofInt (x10 + q8.1))), none, some (.long (Int64.ofInt x12)), none, some (.int (Int32.ofInt x14)), some (.int (Int32.ofInt q8.1)), o16, none, o18, none, o20, o21, none]) (by decide +kernel) rfl mx_254 rfl rfl ?_
      refine ds_lload (k := 8) (p := 108) (by decide +kernel) rfl rfl ?_
      refine ds_lconst (n := 0) (p := 109) (by decide +kernel) rfl dl_0 ?_
      obtain ⟨z11, h⟩ := fx_gd h
      by_cases c12 : ¬ x8 = 0
      · rw [if_pos c12] at h
        refine ds_lcmp_ne_t (off := 24) (t := 134) (by decide +kernel) (by decide +kernel) (by decide +kernel) ((gcl_ne rfl rfl z11 (by decide)).mpr c12) ?_
        refine ds_aload_n (k := 3) (p := 135) (by decide +kernel) rfl rfl ?_
        refine ds_iload (k := 7) (p := 137) (by decide +kernel) rfl rfl ?_
        obtain ⟨z13, h⟩ := fx_gd h
        obtain ⟨z14, h⟩ := fx_gd h
        refine ds_laload (p := 138) (by decide +kernel) rfl z13 z14 ?_
        refine ds_aload (k := 4) (p := 140) (by decide +kernel) rfl rfl ?_
        refine ds_iload (k := 7) (p := 142) (by decide +kernel) rfl rfl ?_
        obtain ⟨z15, h⟩ := fx_gd h
        obtain ⟨z16, h⟩ := fx_gd h
        obtain ⟨v17, w18, h⟩ := fx_bd h
        refine ds_aaload (t := 6) (p := 143) (by decide +kernel) rfl (by decide +kernel) z15 z16 w18 ?_
        refine ds_iload (k := 14) (p := 145) (by decide +kernel) rfl rfl ?_
        obtain ⟨z19, h⟩ := fx_gd h
        obtain ⟨z20, h⟩ := fx_gd h
        refine ds_iaload (p := 146) (by decide +kernel) rfl z19 z20 ?_
        obtain ⟨z21, h⟩ := fx_gd h
        refine ds_i2l (p := 147) (c := Int64.ofInt (δ.I v17 ((x14).toNat))) (by decide +kernel) rfl (ga_i2l rfl z21) ?_
        refine ds_lmul (p := 148) (c := Int64.ofInt ((δ.I x3 ((x7).toNat)) * (δ.I v17 ((x14).toNat)))) (by decide +kernel) rfl (gal_mul rfl rfl) ?_
        refine ds_lload (k := 8) (p := 150) (by decide +kernel) rfl rfl ?_
        obtain ⟨z22, h⟩ := fx_gd h
        refine ds_ldiv (p := 151) (c := Int64.ofInt (((δ.I x3 ((x7).toNat)) * (δ.I v17 ((x14).toNat))) / x8)) (by decide +kernel) rfl (gcl_nz rfl (x := ((δ.I x3 ((x7).toNat)) * (δ.I v17 ((x14).toNat)))) z22) (gal_div rfl rfl z22) ?_
        refine ds_lstore (k := 16) (p := 153) (M := 23) (al' := [some (.ref 0), some (.ref x1), some (.int (Int32.ofInt x2)), some (.ref x3), some (.ref x4), some (.long (Int64.ofInt x5)), none, some (.int (Int32.ofInt x7)), some (.long (Int64.ofInt x8)), none, some (.long (Int64.ofInt (x10 + q8.1))), none, some (.long (Int64.ofInt x12)), none, some (.int (Int32.ofInt x14)), some (.int (Int32.ofInt q8.1)), some (.long (Int64.ofInt (((δ.I x3 ((x7).toNat)) * (δ.I v17 ((x14).toNat))) / x8))), none, o18, none, o20, o21, none]) (by decide +kernel) rfl mx_254 rfl rfl ?_
        refine ds_aload_n (k := 3) (p := 154) (by decide +kernel) rfl rfl ?_
        refine ds_iload (k := 7) (p := 156) (by decide +kernel) rfl rfl ?_
        refine ds_laload (p := 157) (by decide +kernel) rfl z13 z14 ?_
        refine ds_aload (k := 4) (p := 159) (by decide +kernel) rfl rfl ?_
        refine ds_iload (k := 7) (p := 161) (by decide +kernel) rfl rfl ?_
        obtain ⟨v23, w24, h⟩ := fx_bd h
        refine ds_aaload (t := 6) (p := 162) (by decide +kernel) rfl (by decide +kernel) z15 z16 w24 ?_
        refine ds_iload (k := 14) (p := 164) (by decide +kernel) rfl rfl ?_
        obtain ⟨z25, h⟩ := fx_gd h
        obtain ⟨z26, h⟩ := fx_gd h
        refine ds_iaload (p := 165) (by decide +kernel) rfl z25 z26 ?_
        obtain ⟨z27, h⟩ := fx_gd h
        refine ds_i2l (p := 166) (c := Int64.ofInt (δ.I v23 ((x14).toNat))) (by decide +kernel) rfl (ga_i2l rfl z27) ?_
        refine ds_lmul (p := 167) (c := Int64.ofInt ((δ.I x3 ((x7).toNat)) * (δ.I v23 ((x14).toNat)))) (by decide +kernel) rfl (gal_mul rfl rfl) ?_
        refine ds_lload (k := 8) (p := 169) (by decide +kernel) rfl rfl ?_
        obtain ⟨z28, h⟩ := fx_gd h
        refine ds_lrem (p := 170) (c := Int64.ofInt (((δ.I x3 ((x7).toNat)) * (δ.I v23 ((x14).toNat))) % x8)) (by decide +kernel) rfl (gcl_nz rfl (x := ((δ.I x3 ((x7).toNat)) * (δ.I v23 ((x14).toNat)))) z28) (gal_rem rfl rfl z28) ?_
        refine ds_lstore (k := 18) (p := 172) (M := 23) (al' := [some (.ref 0), some (.ref x1), some (.int (Int32.ofInt x2)), some (.ref x3), some (.ref x4), some (.long (Int64.ofInt x5)), none, some (.int (Int32.ofInt x7)), some (.long (Int64.ofInt x8)), none, some (.long (Int64.ofInt (x10 + q8.1))), none, some (.long (Int64.ofInt x12)), none, some (.int (Int32.ofInt x14)), some (.int (Int32.ofInt q8.1)), some (.long (Int64.ofInt (((δ.I x3 ((x7).toNat)) * (δ.I v17 ((x14).toNat))) / x8))), none, some (.long (Int64.ofInt (((δ.I x3 ((x7).toNat)) * (δ.I v23 ((x14).toNat))) % x8))), none, o20, o21, none]) (by decide +kernel) rfl mx_254 rfl rfl ?_
        refine ds_iload (k := 15) (p := 174) (by decide +kernel) rfl rfl ?_
        refine ds_i2l (p := 175) (c := Int64.ofInt q8.1) (by decide +kernel) rfl (ga_i2l rfl z10) ?_
        refine ds_lload (k := 16) (p := 177) (by decide +kernel) rfl rfl ?_
        obtain ⟨z29, h⟩ := fx_gd h
        obtain ⟨z30, h⟩ := fx_gd h
        by_cases c31 : q8.1 = (((δ.I x3 ((x7).toNat)) * (δ.I v17 ((x14).toNat))) / x8)
        · rw [if_pos c31] at h
          refine ds_lcmp_eq_t (off := 23) (t := 201) (by decide +kernel) (by decide +kernel) (by decide +kernel) ((gcl_eq rfl rfl z29 z30).mpr c31) ?_
          exact de_254_201 hz hd ih _ _ _ _ _ _ _ _ _ _ _ _ _ _ _ _ _ _ h
        · rw [if_neg c31] at h
          refine ds_lcmp_eq_f (off := 23) (t := 201) (p := 181) (by decide +kernel) (by decide +kernel) (by decide +kernel) rfl (fun q => c31 ((gcl_eq rfl rfl z29 z30).mp q)) ?_
          refine ds_lload (k := 18) (p := 183) (by decide +kernel) rfl rfl ?_
          refine ds_lconst (n := 0) (p := 184) (by decide +kernel) rfl dl_0 ?_
          obtain ⟨z32, h⟩ := fx_gd h
          by_cases c33 : (((δ.I x3 ((x7).toNat)) * (δ.I v23 ((x14).toNat))) % x8) = 0
          · rw [if_pos c33] at h
            refine ds_lcmp_eq_t (off := 14) (t := 199) (by decide +kernel) (by decide +kernel) (by decide +kernel) ((gcl_eq rfl rfl z32 (by decide)).mpr c33) ?_
            refine ds_iconst (n := 0) (p := 200) (by decide +kernel) rfl rfl ?_
            have h := Option.some.inj h
            subst h
            exact ds_iret (by decide +kernel) rt_254 (by decide +kernel)
          · rw [if_neg c33] at h
            refine ds_lcmp_eq_f (off := 14) (t := 199) (p := 188) (by decide +kernel) (by decide +kernel) (by decide +kernel) rfl (fun q => c33 ((gcl_eq rfl rfl z32 (by decide)).mp q)) ?_
            refine ds_iload (k := 15) (p := 190) (by decide +kernel) rfl rfl ?_
            refine ds_i2l (p := 191) (c := Int64.ofInt q8.1) (by decide +kernel) rfl (ga_i2l rfl z10) ?_
            refine ds_lload (k := 16) (p := 193) (by decide +kernel) rfl rfl ?_
            refine ds_lconst (n := 1) (p := 194) (by decide +kernel) rfl dl_1 ?_
            refine ds_ladd (p := 195) (c := Int64.ofInt ((((δ.I x3 ((x7).toNat)) * (δ.I v17 ((x14).toNat))) / x8) + 1)) (by decide +kernel) rfl (gal_add rfl rfl) ?_
            obtain ⟨z34, h⟩ := fx_gd h
            by_cases c35 : q8.1 = ((((δ.I x3 ((x7).toNat)) * (δ.I v17 ((x14).toNat))) / x8) + 1)
            · rw [if_pos c35] at h
              refine ds_lcmp_eq_t (off := 5) (t := 201) (by decide +kernel) (by decide +kernel) (by decide +kernel) ((gcl_eq rfl rfl z29 z34).mpr c35) ?_
              exact de_254_201 hz hd ih _ _ _ _ _ _ _ _ _ _ _ _ _ _ _ _ _ _ h
            · rw [if_neg c35] at h
              refine ds_lcmp_eq_f (off := 5) (t := 201) (p := 199) (by decide +kernel) (by decide +kernel) (by decide +kernel) rfl (fun q => c35 ((gcl_eq rfl rfl z29 z34).mp q)) ?_
              refine ds_iconst (n := 0) (p := 200) (by decide +kernel) rfl rfl ?_
              have h := Option.some.inj h
              subst h
              exact ds_iret (by decide +kernel) rt_254 (by decide +kernel)
      · rw [if_neg c12] at h
        refine ds_lcmp_ne_f (off := 24) (t := 134) (p := 113) (by decide +kernel) (by decide +kernel) (by decide +kernel) rfl (fun q => c12 ((gcl_ne rfl rfl z11 (by decide)).mp q)) ?_
        refine ds_iload (k := 15) (p := 115) (by decide +kernel) rfl rfl ?_
        by_cases c36 : ¬ q8.1 = 0
        · rw [if_pos c36] at h
          refine ds_if_ne_t (off := 17) (t := 132) (by decide +kernel) (by decide +kernel) ((gc_ne rfl rfl z10 (by decide)).mpr c36) ?_
          refine ds_iconst (n := 0) (p := 133) (by decide +kernel) rfl rfl ?_
          have h := Option.some.inj h
          subst h
          exact ds_iret (by decide +kernel) rt_254 (by decide +kernel)
        · rw [if_neg c36] at h
          refine ds_if_ne_f (off := 17) (t := 132) (p := 118) (by decide +kernel) (by decide +kernel) rfl (fun q => c36 ((gc_ne rfl rfl z10 (by decide)).mp q)) ?_
          refine ds_aload_n (k := 0) (p := 119) (by decide +kernel) rfl rfl ?_
          refine ds_iload_n (k := 2) (p := 120) (by decide +kernel) rfl rfl ?_
          refine ds_iload (k := 7) (p := 122) (by decide +kernel) rfl rfl ?_
          refine ds_iload (k := 14) (p := 124) (by decide +kernel) rfl rfl ?_
          refine ds_iconst (n := 0) (p := 125) (by decide +kernel) rfl rfl ?_
          obtain ⟨q37, w38, h⟩ := fx_bd h
          refine ds_callV (idx := 166) (mj := 98) (ci := 9) (na := 4) (mx := 8) (p := 128) (args := [.ref 0, .int (Int32.ofInt x2), .int (Int32.ofInt x7), .int (Int32.ofInt x14), .int (Int32.ofInt 0)]) (rest := []) (al2 := [some (.ref 0), some (.int (Int32.ofInt x2)), some (.int (Int32.ofInt x7)), some (.int (Int32.ofInt x14)), some (.int (Int32.ofInt 0)), none, none, none]) (S2 := (q37.2, δ)) (by decide +kernel) rfl (by decide +kernel) (Or.inl ⟨_, rfl, Or.inr fo_0⟩) rfl rfl rfl rfl rfl rfl (by omega) (fun d' hd' => dx_cls (fe_98 (by omega) (gf_98 rfl rfl rfl rfl rfl w38))) rfl ?_
          refine ds_iconst (n := -1) (p := 129) (by decide +kernel) rfl rfl ?_
          obtain ⟨z39, h⟩ := fx_gd h
          by_cases c40 : q37.1 = (-1)
          · rw [if_pos c40] at h
            refine ds_icmp_eq_t (off := 152) (t := 281) (by decide +kernel) (by decide +kernel) ((gc_eq rfl rfl z39 (by decide)).mpr c40) ?_
            exact de_254_281 hz hd ih _ _ _ _ _ _ _ _ _ _ _ _ _ _ _ _ _ _ h
          · rw [if_neg c40] at h
            refine ds_icmp_eq_f (off := 152) (t := 281) (p := 132) (by decide +kernel) (by decide +kernel) rfl (fun q => c40 ((gc_eq rfl rfl z39 (by decide)).mp q)) ?_
            refine ds_iconst (n := 0) (p := 133) (by decide +kernel) rfl rfl ?_
            have h := Option.some.inj h
            subst h
            exact ds_iret (by decide +kernel) rt_254 (by decide +kernel)
def dm_254_19 (L : Nat) (xs : Nat → Int32) : Nat → Nat → Int → Nat → Nat → Int → Int → gx_S → dS → Option (Int × DS)
  | 0, _, _, _, _, _, _, _, _ => none
  | n + 1, x1, x2, x3, x4, x5, x7, s, δ =>
    if (-2147483648 ≤ x7 ∧ x7 ≤ 2147483647) then (
    if 8 ≤ x7 then (
      dm_254_515 L xs 100000 x1 x2 x3 x4 x5 0 0 s δ) else (
      if dA δ 6 x4 then (
      if dI δ x4 x7 then (
      (δ.P x4 ((x7).toNat)).bind fun v5 =>
      (dm_253 L xs v5 s δ).bind fun q7 =>
      (gm_97 x2 x7 q7.2.1).bind fun q9 =>
      if (-2147483648 ≤ q9.1 ∧ q9.1 ≤ 2147483647) then (
      if dA q7.2.2 1 x3 then (
      if dI q7.2.2 x3 x7 then (
      if (-9223372036854775808 ≤ q9.1 ∧ q9.1 ≤ 9223372036854775807) then (
      if (-9223372036854775808 ≤ (q7.2.2.I x3 ((x7).toNat)) ∧ (q7.2.2.I x3 ((x7).toNat)) ≤ 9223372036854775807) then (
      if ¬ q9.1 = (q7.2.2.I x3 ((x7).toNat)) then (
        some (0, q9.2, q7.2.2)) else (
        (gm_99 x2 x7 (-1) q9.2).bind fun q17 =>
        if (-2147483648 ≤ q17.1 ∧ q17.1 ≤ 2147483647) then (
        if (-9223372036854775808 ≤ q17.1 ∧ q17.1 ≤ 9223372036854775807) then (
        if q17.1 = (q7.2.2.I x3 ((x7).toNat)) then (
          dm_254_80 L xs (dm_254_19 L xs n) 100000 x1 x2 x3 x4 x5 x7 q7.1 0 0 0 q17.2 q7.2.2) else (
          some (0, q17.2, q7.2.2))) else none) else none)) else none) else none) else none) else none) else none) else none) else none)) else none
theorem de_254_19 {z : iv_Z} {L : Nat} {xs : Nat → Int32} (hz : dZ z L xs) {d : Nat} (hd : 102 ≤ d) : ∀ (n : Nat) (x1 : Nat) (x2 : Int) (x3 : Nat) (x4 : Nat) (x5 : Int) (x7 : Int) (o8 : Option Value) (o10 : Option Value) (o12 : Option Value) (o14 : Option Value) (o15 : Option Value) (o16 : Option Value) (o18 : Option Value) (o20 : Option Value) (o21 : Option Value) (s : gx_S) (δ : dS) (q : Int × DS), dm_254_19 L xs n x1 x2 x3 x4 x5 x7 s δ = some q → dE z 254 d 19 [some (.ref 0), some (.ref x1), some (.int (Int32.ofInt x2)), some (.ref x3), some (.ref x4), some (.long (Int64.ofInt x5)), none, some (.int (Int32.ofInt x7)), o8, none, o10, none, o12, none, o14, o15, o16, none, o18, none, o20, o21, none] [] (s, δ) (some (.int (Int32.ofInt q.1))) q.2 := by
  intro n
  induction n with
  | zero =>
    intro x1 x2 x3 x4 x5 x7 o8 o10 o12 o14 o15 o16 o18 o20 o21 s δ q h
    rw [dm_254_19] at h
    exact fx_no h
  | succ n ih =>
    intro x1 x2 x3 x4 x5 x7 o8 o10 o12 o14 o15 o16 o18 o20 o21 s δ q h
    rw [dm_254_19] at h
    refine ds_iload (k := 7) (p := 21) (by decide +kernel) rfl rfl ?_
    refine ds_bipush (n := 8) (p := 23) (by decide +kernel) rfl dkb_8 ?_
    obtain ⟨z1, h⟩ := fx_gd h
    by_cases c2 : 8 ≤ x7
    · rw [if_pos c2] at h
      refine ds_icmp_ge_t (off := 486) (t := 509) (by decide +kernel) (by decide +kernel) ((gc_le rfl rfl (by decide) z1).mpr c2) ?_
      refine ds_lconst (n := 0) (p := 510) (by decide +kernel) rfl dl_0 ?_
      refine ds_lstore (k := 7) (p := 512) (M := 23) (al' := [some (.ref 0), some (.ref x1), some (.int (Int32.ofInt x2)), some (.ref x3), some (.ref x4), some (.long (Int64.ofInt x5)), none, some (.long (Int64.ofInt 0)), none, none, o10, none, o12, none, o14, o15, o16, none, o18, none, o20, o21, none]) (by decide +kernel) rfl mx_254 rfl rfl ?_
      refine ds_iconst (n := 0) (p := 513) (by decide +kernel) rfl rfl ?_
      refine ds_istore (k := 9) (p := 515) (M := 23) (al' := [some (.ref 0), some (.ref x1), some (.int (Int32.ofInt x2)), some (.ref x3), some (.ref x4), some (.long (Int64.ofInt x5)), none, some (.long (Int64.ofInt 0)), none, some (.int (Int32.ofInt 0)), o10, none, o12, none, o14, o15, o16, none, o18, none, o20, o21, none]) (by decide +kernel) rfl mx_254 rfl rfl ?_
      exact de_254_515 hz hd 100000 _ _ _ _ _ _ _ _ _ _ _ _ _ _ _ _ _ _ h
    · rw [if_neg c2] at h
      refine ds_icmp_ge_f (off := 486) (t := 509) (p := 26) (by decide +kernel) (by decide +kernel) rfl (fun q => c2 ((gc_le rfl rfl (by decide) z1).mp q)) ?_
      refine ds_aload (k := 4) (p := 28) (by decide +kernel) rfl rfl ?_
      refine ds_iload (k := 7) (p := 30) (by decide +kernel) rfl rfl ?_
      obtain ⟨z3, h⟩ := fx_gd h
      obtain ⟨z4, h⟩ := fx_gd h
      obtain ⟨v5, w6, h⟩ := fx_bd h
      refine ds_aaload (t := 6) (p := 31) (by decide +kernel) rfl (by decide +kernel) z3 z4 w6 ?_
      obtain ⟨q7, w8, h⟩ := fx_bd h
      refine ds_callS (idx := 159) (mj := 253) (na := 1) (mx := 7) (p := 34) (args := [.ref v5]) (rest := []) (al2 := [some (.ref v5), none, none, none, none, none, none]) (S2 := q7.2) (by decide +kernel) rfl (by decide +kernel) rfl rfl rfl rfl rfl rfl (by omega) (fun d' hd' => de_253 hz (by omega) w8) rfl ?_
      refine ds_lstore (k := 8) (p := 36) (M := 23) (al' := [some (.ref 0), some (.ref x1), some (.int (Int32.ofInt x2)), some (.ref x3), some (.ref x4), some (.long (Int64.ofInt x5)), none, some (.int (Int32.ofInt x7)), some (.long (Int64.ofInt q7.1)), none, o10, none, o12, none, o14, o15, o16, none, o18, none, o20, o21, none]) (by decide +kernel) rfl mx_254 rfl rfl ?_
      refine ds_lconst (n := 0) (p := 37) (by decide +kernel) rfl dl_0 ?_
      refine ds_lstore (k := 10) (p := 39) (M := 23) (al' := [some (.ref 0), some (.ref x1), some (.int (Int32.ofInt x2)), some (.ref x3), some (.ref x4), some (.long (Int64.ofInt x5)), none, some (.int (Int32.ofInt x7)), some (.long (Int64.ofInt q7.1)), none, some (.long (Int64.ofInt 0)), none, o12, none, o14, o15, o16, none, o18, none, o20, o21, none]) (by decide +kernel) rfl mx_254 rfl rfl ?_
      refine ds_lconst (n := 0) (p := 40) (by decide +kernel) rfl dl_0 ?_
      refine ds_lstore (k := 12) (p := 42) (M := 23) (al' := [some (.ref 0), some (.ref x1), some (.int (Int32.ofInt x2)), some (.ref x3), some (.ref x4), some (.long (Int64.ofInt x5)), none, some (.int (Int32.ofInt x7)), some (.long (Int64.ofInt q7.1)), none, some (.long (Int64.ofInt 0)), none, some (.long (Int64.ofInt 0)), none, o14, o15, o16, none, o18, none, o20, o21, none]) (by decide +kernel) rfl mx_254 rfl rfl ?_
      refine ds_aload_n (k := 0) (p := 43) (by decide +kernel) rfl rfl ?_
      refine ds_iload_n (k := 2) (p := 44) (by decide +kernel) rfl rfl ?_
      refine ds_iload (k := 7) (p := 46) (by decide +kernel) rfl rfl ?_
      obtain ⟨q9, w10, h⟩ := fx_bd h
      refine ds_callV (idx := 141) (mj := 97) (ci := 9) (na := 2) (mx := 4) (p := 49) (args := [.ref 0, .int (Int32.ofInt x2), .int (Int32.ofInt x7)]) (rest := []) (al2 := [some (.ref 0), some (.int (Int32.ofInt x2)), some (.int (Int32.ofInt x7)), none]) (S2 := (q9.2, q7.2.2)) (by decide +kernel) rfl (by decide +kernel) (Or.inl ⟨_, rfl, Or.inr fo_0⟩) rfl rfl rfl rfl rfl rfl (by omega) (fun d' hd' => dx_cls (fe_97 (by omega) (gf_97 rfl rfl rfl w10))) rfl ?_
      obtain ⟨z11, h⟩ := fx_gd h
      refine ds_i2l (p := 50) (c := Int64.ofInt q9.1) (by decide +kernel) rfl (ga_i2l rfl z11) ?_
      refine ds_aload_n (k := 3) (p := 51) (by decide +kernel) rfl rfl ?_
      refine ds_iload (k := 7) (p := 53) (by decide +kernel) rfl rfl ?_
      obtain ⟨z12, h⟩ := fx_gd h
      obtain ⟨z13, h⟩ := fx_gd h
      refine ds_laload (p := 54) (by decide +kernel) rfl z12 z13 ?_
      obtain ⟨z14, h⟩ := fx_gd h
      obtain ⟨z15, h⟩ := fx_gd h
      by_cases c16 : ¬ q9.1 = (q7.2.2.I x3 ((x7).toNat))
      · rw [if_pos c16] at h
        refine ds_lcmp_ne_t (off := 20) (t := 75) (by decide +kernel) (by decide +kernel) (by decide +kernel) ((gcl_ne rfl rfl z14 z15).mpr c16) ?_
        refine ds_iconst (n := 0) (p := 76) (by decide +kernel) rfl rfl ?_
        have h := Option.some.inj h
        subst h
        exact ds_iret (by decide +kernel) rt_254 (by decide +kernel)
      · rw [if_neg c16] at h
        refine ds_lcmp_ne_f (off := 20) (t := 75) (p := 58) (by decide +kernel) (by decide +kernel) (by decide +kernel) rfl (fun q => c16 ((gcl_ne rfl rfl z14 z15).mp q)) ?_
        refine ds_aload_n (k := 0) (p := 59) (by decide +kernel) rfl rfl ?_
        refine ds_iload_n (k := 2) (p := 60) (by decide +kernel) rfl rfl ?_
        refine ds_iload (k := 7) (p := 62) (by decide +kernel) rfl rfl ?_
        refine ds_iconst (n := -1) (p := 63) (by decide +kernel) rfl rfl ?_
        obtain ⟨q17, w18, h⟩ := fx_bd h
        refine ds_callV (idx := 163) (mj := 99) (ci := 9) (na := 3) (mx := 12) (p := 66) (args := [.ref 0, .int (Int32.ofInt x2), .int (Int32.ofInt x7), .int (Int32.ofInt (-1))]) (rest := []) (al2 := [some (.ref 0), some (.int (Int32.ofInt x2)), some (.int (Int32.ofInt x7)), some (.int (Int32.ofInt (-1))), none, none, none, none, none, none, none, none]) (S2 := (q17.2, q7.2.2)) (by decide +kernel) rfl (by decide +kernel) (Or.inl ⟨_, rfl, Or.inr fo_0⟩) rfl rfl rfl rfl rfl rfl (by omega) (fun d' hd' => dx_cls (fe_99 (by omega) (gf_99 rfl rfl rfl rfl w18))) rfl ?_
        obtain ⟨z19, h⟩ := fx_gd h
        refine ds_i2l (p := 67) (c := Int64.ofInt q17.1) (by decide +kernel) rfl (ga_i2l rfl z19) ?_
        refine ds_aload_n (k := 3) (p := 68) (by decide +kernel) rfl rfl ?_
        refine ds_iload (k := 7) (p := 70) (by decide +kernel) rfl rfl ?_
        refine ds_laload (p := 71) (by decide +kernel) rfl z12 z13 ?_
        obtain ⟨z20, h⟩ := fx_gd h
        by_cases c21 : q17.1 = (q7.2.2.I x3 ((x7).toNat))
        · rw [if_pos c21] at h
          refine ds_lcmp_eq_t (off := 5) (t := 77) (by decide +kernel) (by decide +kernel) (by decide +kernel) ((gcl_eq rfl rfl z20 z15).mpr c21) ?_
          refine ds_iconst (n := 0) (p := 78) (by decide +kernel) rfl rfl ?_
          refine ds_istore (k := 14) (p := 80) (M := 23) (al' := [some (.ref 0), some (.ref x1), some (.int (Int32.ofInt x2)), some (.ref x3), some (.ref x4), some (.long (Int64.ofInt x5)), none, some (.int (Int32.ofInt x7)), some (.long (Int64.ofInt q7.1)), none, some (.long (Int64.ofInt 0)), none, some (.long (Int64.ofInt 0)), none, some (.int (Int32.ofInt 0)), o15, o16, none, o18, none, o20, o21, none]) (by decide +kernel) rfl mx_254 rfl rfl ?_
          exact de_254_80 hz hd ih 100000 _ _ _ _ _ _ _ _ _ _ _ _ _ _ _ _ _ _ h
        · rw [if_neg c21] at h
          refine ds_lcmp_eq_f (off := 5) (t := 77) (p := 75) (by decide +kernel) (by decide +kernel) (by decide +kernel) rfl (fun q => c21 ((gcl_eq rfl rfl z20 z15).mp q)) ?_
          refine ds_iconst (n := 0) (p := 76) (by decide +kernel) rfl rfl ?_
          have h := Option.some.inj h
          subst h
          exact ds_iret (by decide +kernel) rt_254 (by decide +kernel)
def dm_254 (L : Nat) (xs : Nat → Int32) (x1 : Nat) (x2 : Int) (s : gx_S) (δ : dS) : Option (Int × DS) :=
  (dm_248 L xs x1 x2 s δ).bind fun q1 =>
  (dm_250 L xs x1 x2 q1.2.1 q1.2.2).bind fun q3 =>
  dm_254_19 L xs 100000 x1 x2 q1.1 q3.1 0 0 q3.2.1 q3.2.2
theorem de_254 {z : iv_Z} {L : Nat} {xs : Nat → Int32} (hz : dZ z L xs) {d : Nat} (hd : 102 ≤ d) {x1 : Nat} {x2 : Int} {s : gx_S} {δ : dS} {q : Int × DS} (h : dm_254 L xs x1 x2 s δ = some q) : dE z 254 d 0 [some (.ref 0), some (.ref x1), some (.int (Int32.ofInt x2)), none, none, none, none, none, none, none, none, none, none, none, none, none, none, none, none, none, none, none, none] [] (s, δ) (some (.int (Int32.ofInt q.1))) q.2 := by
  unfold dm_254 at h
  refine ds_aload_n (k := 1) (p := 1) (by decide +kernel) rfl rfl ?_
  refine ds_iload_n (k := 2) (p := 2) (by decide +kernel) rfl rfl ?_
  obtain ⟨q1, w2, h⟩ := fx_bd h
  refine ds_callS (idx := 151) (mj := 248) (na := 2) (mx := 7) (p := 5) (args := [.ref x1, .int (Int32.ofInt x2)]) (rest := []) (al2 := [some (.ref x1), some (.int (Int32.ofInt x2)), none, none, none, none, none]) (S2 := q1.2) (by decide +kernel) rfl (by decide +kernel) rfl rfl rfl rfl rfl rfl (by omega) (fun d' hd' => de_248 hz (by omega) w2) rfl ?_
  refine ds_astore_n (k := 3) (p := 6) (M := 23) (al' := [some (.ref 0), some (.ref x1), some (.int (Int32.ofInt x2)), some (.ref q1.1), none, none, none, none, none, none, none, none, none, none, none, none, none, none, none, none, none, none, none]) (by decide +kernel) rfl mx_254 rfl rfl ?_
  refine ds_aload_n (k := 1) (p := 7) (by decide +kernel) rfl rfl ?_
  refine ds_iload_n (k := 2) (p := 8) (by decide +kernel) rfl rfl ?_
  obtain ⟨q3, w4, h⟩ := fx_bd h
  refine ds_callS (idx := 155) (mj := 250) (na := 2) (mx := 6) (p := 11) (args := [.ref x1, .int (Int32.ofInt x2)]) (rest := []) (al2 := [some (.ref x1), some (.int (Int32.ofInt x2)), none, none, none, none]) (S2 := q3.2) (by decide +kernel) rfl (by decide +kernel) rfl rfl rfl rfl rfl rfl (by omega) (fun d' hd' => de_250 hz (by omega) w4) rfl ?_
  refine ds_astore (k := 4) (p := 13) (M := 23) (al' := [some (.ref 0), some (.ref x1), some (.int (Int32.ofInt x2)), some (.ref q1.1), some (.ref q3.1), none, none, none, none, none, none, none, none, none, none, none, none, none, none, none, none, none, none]) (by decide +kernel) rfl mx_254 rfl rfl ?_
  refine ds_lconst (n := 0) (p := 14) (by decide +kernel) rfl dl_0 ?_
  refine ds_lstore (k := 5) (p := 16) (M := 23) (al' := [some (.ref 0), some (.ref x1), some (.int (Int32.ofInt x2)), some (.ref q1.1), some (.ref q3.1), some (.long (Int64.ofInt 0)), none, none, none, none, none, none, none, none, none, none, none, none, none, none, none, none, none]) (by decide +kernel) rfl mx_254 rfl rfl ?_
  refine ds_iconst (n := 0) (p := 17) (by decide +kernel) rfl rfl ?_
  refine ds_istore (k := 7) (p := 19) (M := 23) (al' := [some (.ref 0), some (.ref x1), some (.int (Int32.ofInt x2)), some (.ref q1.1), some (.ref q3.1), some (.long (Int64.ofInt 0)), none, some (.int (Int32.ofInt 0)), none, none, none, none, none, none, none, none, none, none, none, none, none, none, none]) (by decide +kernel) rfl mx_254 rfl rfl ?_
  exact de_254_19 hz hd 100000 _ _ _ _ _ _ _ _ _ _ _ _ _ _ _ _ _ _ h
