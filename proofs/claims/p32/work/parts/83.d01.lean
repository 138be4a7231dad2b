/-! ZoneSharesLaw.cells([II)I d -/
theorem mx_243 : iv_mx 243 = 7 := by decide +kernel
theorem rt_243 : iv_rt 243 = some .int := by decide +kernel
def dm_243_33 (L : Nat) (xs : Nat → Int32) (k_11 : Int → Int → Nat → Int → Int → gx_S → dS → Option (Int × DS)) (x1 : Int) (x2 : Int) (x3 : Nat) (x4 : Int) (x5 : Int) (s : gx_S) (δ : dS) : Option (Int × DS) :=
  k_11 x1 x2 x3 x4 (x5 + 1) s δ
theorem de_243_33 {z : iv_Z} {L : Nat} {xs : Nat → Int32} (hz : dZ z L xs) {d : Nat} (hd : 0 ≤ d) {k_11 : Int → Int → Nat → Int → Int → gx_S → dS → Option (Int × DS)} (hk_11 : ∀ (x1 : Int) (x2 : Int) (x3 : Nat) (x4 : Int) (x5 : Int) (o0 : Option Value) (o6 : Option Value) (s : gx_S) (δ : dS) (q : Int × DS), k_11 x1 x2 x3 x4 x5 s δ = some q → dE z 243 d 11 [o0, some (.int (Int32.ofInt x1)), some (.int (Int32.ofInt x2)), some (.ref x3), some (.int (Int32.ofInt x4)), some (.int (Int32.ofInt x5)), o6] [] (s, δ) (some (.int (Int32.ofInt q.1))) q.2) (x1 : Int) (x2 : Int) (x3 : Nat) (x4 : Int) (x5 : Int) (o0 : Option Value) (o6 : Option Value) (s : gx_S) (δ : dS) (q : Int × DS) (h : dm_243_33 L xs k_11  x1 x2 x3 x4 x5 s δ = some q) : dE z 243 d 33 [o0, some (.int (Int32.ofInt x1)), some (.int (Int32.ofInt x2)), some (.ref x3), some (.int (Int32.ofInt x4)), some (.int (Int32.ofInt x5)), o6] [] (s, δ) (some (.int (Int32.ofInt q.1))) q.2 := by
  unfold dm_243_33 at h
  refine ds_iinc (k := 5) (n := 1) (p := 36) (M := 7) (y := Int32.ofInt (x5 + 1)) (al' := [o0, some (.int (Int32.ofInt x1)), some (.int (Int32.ofInt x2)), some (.ref x3), some (.int (Int32.ofInt x4)), some (.int (Int32.ofInt (x5 + 1))), o6]) (by decide +kernel) rfl rfl mx_243 rfl rfl (ga_add rfl rfl) rfl ?_
  refine ds_goto (off := -25) (p := 11) (by decide +kernel) (by decide +kernel) ?_
  exact hk_11 _ _ _ _ _ _ _ _ _ _ h
def dm_243_11 (L : Nat) (xs : Nat → Int32) : Nat → Int → Int → Nat → Int → Int → gx_S → dS → Option (Int × DS)
  | 0, _, _, _, _, _, _, _ => none
  | n + 1, x1, x2, x3, x4, x5, s, δ =>
    if (-2147483648 ≤ x5 ∧ x5 ≤ 2147483647) then (
    if (-2147483648 ≤ x4 ∧ x4 ≤ 2147483647) then (
    if x4 ≤ x5 then (
      some (x2, s, δ)) else (
      if dA δ 0 x3 then (
      if dI δ x3 x5 then (
      if (-2147483648 ≤ (δ.I x3 ((x5).toNat)) ∧ (δ.I x3 ((x5).toNat)) ≤ 2147483647) then (
      if (-2147483648 ≤ x1 ∧ x1 ≤ 2147483647) then (
      if ¬ (δ.I x3 ((x5).toNat)) = x1 then (
        dm_243_33 L xs (dm_243_11 L xs n) x1 x2 x3 x4 x5 s δ) else (
        dm_243_33 L xs (dm_243_11 L xs n) x1 (x2 + 1) x3 x4 x5 s δ)) else none) else none) else none) else none)) else none) else none
theorem de_243_11 {z : iv_Z} {L : Nat} {xs : Nat → Int32} (hz : dZ z L xs) {d : Nat} (hd : 0 ≤ d) : ∀ (n : Nat) (x1 : Int) (x2 : Int) (x3 : Nat) (x4 : Int) (x5 : Int) (o0 : Option Value) (o6 : Option Value) (s : gx_S) (δ : dS) (q : Int × DS), dm_243_11 L xs n x1 x2 x3 x4 x5 s δ = some q → dE z 243 d 11 [o0, some (.int (Int32.ofInt x1)), some (.int (Int32.ofInt x2)), some (.ref x3), some (.int (Int32.ofInt x4)), some (.int (Int32.ofInt x5)), o6] [] (s, δ) (some (.int (Int32.ofInt q.1))) q.2 := by
  intro n
  induction n with
  | zero =>
    intro x1 x2 x3 x4 x5 o0 o6 s δ q h
    rw [dm_243_11] at h
    exact fx_no h
  | succ n ih =>
    intro x1 x2 x3 x4 x5 o0 o6 s δ q h
    rw [dm_243_11] at h
    refine ds_iload (k := 5) (p := 13) (by decide +kernel) rfl rfl ?_
    refine ds_iload (k := 4) (p := 15) (by decide +kernel) rfl rfl ?_
    obtain ⟨z1, h⟩ := fx_gd h
    obtain ⟨z2, h⟩ := fx_gd h
    by_cases c3 : x4 ≤ x5
    · rw [if_pos c3] at h
      refine ds_icmp_ge_t (off := 24) (t := 39) (by decide +kernel) (by decide +kernel) ((gc_le rfl rfl z2 z1).mpr c3) ?_
      refine ds_iload_n (k := 2) (p := 40) (by decide +kernel) rfl rfl ?_
      have h := Option.some.inj h
      subst h
      exact ds_iret (by decide +kernel) rt_243 rfl
    · rw [if_neg c3] at h
      refine ds_icmp_ge_f (off := 24) (t := 39) (p := 18) (by decide +kernel) (by decide +kernel) rfl (fun q => c3 ((gc_le rfl rfl z2 z1).mp q)) ?_
      refine ds_aload_n (k := 3) (p := 19) (by decide +kernel) rfl rfl ?_
      refine ds_iload (k := 5) (p := 21) (by decide +kernel) rfl rfl ?_
      obtain ⟨z4, h⟩ := fx_gd h
      obtain ⟨z5, h⟩ := fx_gd h
      refine ds_iaload (p := 22) (by decide +kernel) rfl z4 z5 ?_
      refine ds_istore (k := 6) (p := 24) (M := 7) (al' := [o0, some (.int (Int32.ofInt x1)), some (.int (Int32.ofInt x2)), some (.ref x3), some (.int (Int32.ofInt x4)), some (.int (Int32.ofInt x5)), some (.int (Int32.ofInt (δ.I x3 ((x5).toNat))))]) (by decide +kernel) rfl mx_243 rfl rfl ?_
      refine ds_iload (k := 6) (p := 26) (by decide +kernel) rfl rfl ?_
      refine ds_iload_n (k := 1) (p := 27) (by decide +kernel) rfl rfl ?_
      obtain ⟨z6, h⟩ := fx_gd h
      obtain ⟨z7, h⟩ := fx_gd h
      by_cases c8 : ¬ (δ.I x3 ((x5).toNat)) = x1
      · rw [if_pos c8] at h
        refine ds_icmp_ne_t (off := 6) (t := 33) (by decide +kernel) (by decide +kernel) ((gc_ne rfl rfl z6 z7).mpr c8) ?_
        exact de_243_33 hz hd ih _ _ _ _ _ _ _ _ _ _ h
      · rw [if_neg c8] at h
        refine ds_icmp_ne_f (off := 6) (t := 33) (p := 30) (by decide +kernel) (by decide +kernel) rfl (fun q => c8 ((gc_ne rfl rfl z6 z7).mp q)) ?_
        refine ds_iinc (k := 2) (n := 1) (p := 33) (M := 7) (y := Int32.ofInt (x2 + 1)) (al' := [o0, some (.int (Int32.ofInt x1)), some (.int (Int32.ofInt (x2 + 1))), some (.ref x3), some (.int (Int32.ofInt x4)), some (.int (Int32.ofInt x5)), some (.int (Int32.ofInt (δ.I x3 ((x5).toNat))))]) (by decide +kernel) rfl rfl mx_243 rfl rfl (ga_add rfl rfl) rfl ?_
        exact de_243_33 hz hd ih _ _ _ _ _ _ _ _ _ _ h
def dm_243 (L : Nat) (xs : Nat → Int32) (x0 : Nat) (x1 : Int) (s : gx_S) (δ : dS) : Option (Int × DS) :=
  if dA δ 0 x0 then (
  dm_243_11 L xs 100000 x1 0 x0 ((δ.sh x0).2 : Int) 0 s δ) else none
theorem de_243 {z : iv_Z} {L : Nat} {xs : Nat → Int32} (hz : dZ z L xs) {d : Nat} (hd : 0 ≤ d) {x0 : Nat} {x1 : Int} {s : gx_S} {δ : dS} {q : Int × DS} (h : dm_243 L xs x0 x1 s δ = some q) : dE z 243 d 0 [some (.ref x0), some (.int (Int32.ofInt x1)), none, none, none, none, none] [] (s, δ) (some (.int (Int32.ofInt q.1))) q.2 := by
  unfold dm_243 at h
  refine ds_iconst (n := 0) (p := 1) (by decide +kernel) rfl rfl ?_
  refine ds_istore_n (k := 2) (p := 2) (M := 7) (al' := [some (.ref x0), some (.int (Int32.ofInt x1)), some (.int (Int32.ofInt 0)), none, none, none, none]) (by decide +kernel) rfl mx_243 rfl rfl ?_
  refine ds_aload_n (k := 0) (p := 3) (by decide +kernel) rfl rfl ?_
  refine ds_astore_n (k := 3) (p := 4) (M := 7) (al' := [some (.ref x0), some (.int (Int32.ofInt x1)), some (.int (Int32.ofInt 0)), some (.ref x0), none, none, none]) (by decide +kernel) rfl mx_243 rfl rfl ?_
  refine ds_aload_n (k := 3) (p := 5) (by decide +kernel) rfl rfl ?_
  obtain ⟨z1, h⟩ := fx_gd h
  refine ds_alen (t := 0) (p := 6) (by decide +kernel) rfl z1 (by decide) ?_
  refine ds_istore (k := 4) (p := 8) (M := 7) (al' := [some (.ref x0), some (.int (Int32.ofInt x1)), some (.int (Int32.ofInt 0)), some (.ref x0), some (.int (Int32.ofInt ((δ.sh x0).2 : Int))), none, none]) (by decide +kernel) rfl mx_243 rfl rfl ?_
  refine ds_iconst (n := 0) (p := 9) (by decide +kernel) rfl rfl ?_
  refine ds_istore (k := 5) (p := 11) (M := 7) (al' := [some (.ref x0), some (.int (Int32.ofInt x1)), some (.int (Int32.ofInt 0)), some (.ref x0), some (.int (Int32.ofInt ((δ.sh x0).2 : Int))), some (.int (Int32.ofInt 0)), none]) (by decide +kernel) rfl mx_243 rfl rfl ?_
  exact de_243_11 hz hd 100000 _ _ _ _ _ _ _ _ _ _ h
/-! ZoneSharesLaw.sum(LZoneSharesLaw$Map;IIIZ)I d -/
theorem mx_244 : iv_mx 244 = 7 := by decide +kernel
theorem rt_244 : iv_rt 244 = some .int := by decide +kernel
def dm_244_74 (L : Nat) (xs : Nat → Int32) (k_6 : Nat → Int → Int → Int → Int → Int → Int → gx_S → dS → Option (Int × DS)) (x0 : Nat) (x1 : Int) (x2 : Int) (x3 : Int) (x4 : Int) (x5 : Int) (x6 : Int) (s : gx_S) (δ : dS) : Option (Int × DS) :=
  k_6 x0 x1 x2 x3 x4 x5 (x6 + 1) s δ
theorem de_244_74 {z : iv_Z} {L : Nat} {xs : Nat → Int32} (hz : dZ z L xs) {d : Nat} (hd : 0 ≤ d) {k_6 : Nat → Int → Int → Int → Int → Int → Int → gx_S → dS → Option (Int × DS)} (hk_6 : ∀ (x0 : Nat) (x1 : Int) (x2 : Int) (x3 : Int) (x4 : Int) (x5 : Int) (x6 : Int) (s : gx_S) (δ : dS) (q : Int × DS), k_6 x0 x1 x2 x3 x4 x5 x6 s δ = some q → dE z 244 d 6 [some (.ref x0), some (.int (Int32.ofInt x1)), some (.int (Int32.ofInt x2)), some (.int (Int32.ofInt x3)), some (.int (Int32.ofInt x4)), some (.int (Int32.ofInt x5)), some (.int (Int32.ofInt x6))] [] (s, δ) (some (.int (Int32.ofInt q.1))) q.2) (x0 : Nat) (x1 : Int) (x2 : Int) (x3 : Int) (x4 : Int) (x5 : Int) (x6 : Int) (s : gx_S) (δ : dS) (q : Int × DS) (h : dm_244_74 L xs k_6  x0 x1 x2 x3 x4 x5 x6 s δ = some q) : dE z 244 d 74 [some (.ref x0), some (.int (Int32.ofInt x1)), some (.int (Int32.ofInt x2)), some (.int (Int32.ofInt x3)), some (.int (Int32.ofInt x4)), some (.int (Int32.ofInt x5)), some (.int (Int32.ofInt x6))] [] (s, δ) (some (.int (Int32.ofInt q.1))) q.2 := by
  unfold dm_244_74 at h
  refine ds_iinc (k := 6) (n := 1) (p := 77) (M := 7) (y := Int32.ofInt (x6 + 1)) (al' := [some (.ref x0), some (.int (Int32.ofInt x1)), some (.int (Int32.ofInt x2)), some (.int (Int32.ofInt x3)), some (.int (Int32.ofInt x4)), some (.int (Int32.ofInt x5)), some (.int (Int32.ofInt (x6 + 1)))]) (by decide +kernel) rfl rfl mx_244 rfl rfl (ga_add rfl rfl) rfl ?_
  refine ds_goto (off := -71) (p := 6) (by decide +kernel) (by decide +kernel) ?_
  exact hk_6 _ _ _ _ _ _ _ _ _ _ h
def dm_244_71 (L : Nat) (xs : Nat → Int32) (k_6 : Nat → Int → Int → Int → Int → Int → Int → gx_S → dS → Option (Int × DS)) (x0 : Nat) (x1 : Int) (x2 : Int) (x3 : Int) (x4 : Int) (x6 : Int) (s0 : Int) (s1 : Int) (s : gx_S) (δ : dS) : Option (Int × DS) :=
  dm_244_74 L xs k_6 x0 x1 x2 x3 x4 (s0 + s1) x6 s δ
theorem de_244_71 {z : iv_Z} {L : Nat} {xs : Nat → Int32} (hz : dZ z L xs) {d : Nat} (hd : 0 ≤ d) {k_6 : Nat → Int → Int → Int → Int → Int → Int → gx_S → dS → Option (Int × DS)} (hk_6 : ∀ (x0 : Nat) (x1 : Int) (x2 : Int) (x3 : Int) (x4 : Int) (x5 : Int) (x6 : Int) (s : gx_S) (δ : dS) (q : Int × DS), k_6 x0 x1 x2 x3 x4 x5 x6 s δ = some q → dE z 244 d 6 [some (.ref x0), some (.int (Int32.ofInt x1)), some (.int (Int32.ofInt x2)), some (.int (Int32.ofInt x3)), some (.int (Int32.ofInt x4)), some (.int (Int32.ofInt x5)), some (.int (Int32.ofInt x6))] [] (s, δ) (some (.int (Int32.ofInt q.1))) q.2) (x0 : Nat) (x1 : Int) (x2 : Int) (x3 : Int) (x4 : Int) (x6 : Int) (s0 : Int) (s1 : Int) (o5 : Option Value) (s : gx_S) (δ : dS) (q : Int × DS) (h : dm_244_71 L xs k_6  x0 x1 x2 x3 x4 x6 s0 s1 s δ = some q) : dE z 244 d 71 [some (.ref x0), some (.int (Int32.ofInt x1)), some (.int (Int32.ofInt x2)), some (.int (Int32.ofInt x3)), some (.int (Int32.ofInt x4)), o5, some (.int (Int32.ofInt x6))] [.int (Int32.ofInt s1), .int (Int32.ofInt s0)] (s, δ) (some (.int (Int32.ofInt q.1))) q.2 := by
  unfold dm_244_71 at h
  refine ds_iadd (p := 72) (c := Int32.ofInt (s0 + s1)) (by decide +kernel) rfl (ga_add rfl rfl) ?_
  refine ds_istore (k := 5) (p := 74) (M := 7) (al' := [some (.ref x0), some (.int (Int32.ofInt x1)), some (.int (Int32.ofInt x2)), some (.int (Int32.ofInt x3)), some (.int (Int32.ofInt x4)), some (.int (Int32.ofInt (s0 + s1))), some (.int (Int32.ofInt x6))]) (by decide +kernel) rfl mx_244 rfl rfl ?_
  exact de_244_74 hz hd hk_6 _ _ _ _ _ _ _ _ _ _ h
def dm_244_46 (L : Nat) (xs : Nat → Int32) (k_6 : Nat → Int → Int → Int → Int → Int → Int → gx_S → dS → Option (Int × DS)) (x0 : Nat) (x1 : Int) (x2 : Int) (x3 : Int) (x4 : Int) (x5 : Int) (x6 : Int) (s : gx_S) (δ : dS) : Option (Int × DS) :=
  if (-2147483648 ≤ x4 ∧ x4 ≤ 2147483647) then (
  if x4 = 0 then (
    if dO δ x0 10 then (
    (δ.P x0 8).bind fun v4 =>
    if dA δ 6 v4 then (
    if dI δ v4 x1 then (
    (δ.P v4 ((x1).toNat)).bind fun v8 =>
    (δ.P x0 6).bind fun v10 =>
    if dA δ 0 v10 then (
    if dI δ v10 x6 then (
    if dA δ 0 v8 then (
    if dI δ v8 (δ.I v10 ((x6).toNat)) then (
    dm_244_71 L xs k_6 x0 x1 x2 x3 x4 x6 x5 (δ.I v8 (((δ.I v10 ((x6).toNat))).toNat)) s δ) else none) else none) else none) else none) else none) else none) else none) else (
    dm_244_71 L xs k_6 x0 x1 x2 x3 x4 x6 x5 1 s δ)) else none
theorem de_244_46 {z : iv_Z} {L : Nat} {xs : Nat → Int32} (hz : dZ z L xs) {d : Nat} (hd : 0 ≤ d) {k_6 : Nat → Int → Int → Int → Int → Int → Int → gx_S → dS → Option (Int × DS)} (hk_6 : ∀ (x0 : Nat) (x1 : Int) (x2 : Int) (x3 : Int) (x4 : Int) (x5 : Int) (x6 : Int) (s : gx_S) (δ : dS) (q : Int × DS), k_6 x0 x1 x2 x3 x4 x5 x6 s δ = some q → dE z 244 d 6 [some (.ref x0), some (.int (Int32.ofInt x1)), some (.int (Int32.ofInt x2)), some (.int (Int32.ofInt x3)), some (.int (Int32.ofInt x4)), some (.int (Int32.ofInt x5)), some (.int (Int32.ofInt x6))] [] (s, δ) (some (.int (Int32.ofInt q.1))) q.2) (x0 : Nat) (x1 : Int) (x2 : Int) (x3 : Int) (x4 : Int) (x5 : Int) (x6 : Int) (s : gx_S) (δ : dS) (q : Int × DS) (h : dm_244_46 L xs k_6  x0 x1 x2 x3 x4 x5 x6 s δ = some q) : dE z 244 d 46 [some (.ref x0), some (.int (Int32.ofInt x1)), some (.int (Int32.ofInt x2)), some (.int (Int32.ofInt x3)), some (.int (Int32.ofInt x4)), some (.int (Int32.ofInt x5)), some (.int (Int32.ofInt x6))] [] (s, δ) (some (.int (Int32.ofInt q.1))) q.2 := by
  unfold dm_244_46 at h
  refine ds_iload (k := 5) (p := 48) (by decide +kernel) rfl rfl ?_
  refine ds_iload (k := 4) (p := 50) (by decide +kernel) rfl rfl ?_
  obtain ⟨z1, h⟩ := fx_gd h
  by_cases c2 : x4 = 0
  · rw [if_pos c2] at h
    refine ds_if_eq_t (off := 7) (t := 57) (by decide +kernel) (by decide +kernel) ((gc_eq rfl rfl z1 (by decide)).mpr c2) ?_
    refine ds_aload_n (k := 0) (p := 58) (by decide +kernel) rfl rfl ?_
    obtain ⟨z3, h⟩ := fx_gd h
    obtain ⟨v4, w5, h⟩ := fx_bd h
    refine ds_gfr (idx := 75) (ci := 10) (j := 8) (p := 61) (by decide +kernel) rfl (by decide +kernel) z3 w5 ?_
    refine ds_iload_n (k := 1) (p := 62) (by decide +kernel) rfl rfl ?_
    obtain ⟨z6, h⟩ := fx_gd h
    obtain ⟨z7, h⟩ := fx_gd h
    obtain ⟨v8, w9, h⟩ := fx_bd h
    refine ds_aaload (t := 6) (p := 63) (by decide +kernel) rfl (by decide +kernel) z6 z7 w9 ?_
    refine ds_aload_n (k := 0) (p := 64) (by decide +kernel) rfl rfl ?_
    obtain ⟨v10, w11, h⟩ := fx_bd h
    refine ds_gfr (idx := 62) (ci := 10) (j := 6) (p := 67) (by decide +kernel) rfl (by decide +kernel) z3 w11 ?_
    refine ds_iload (k := 6) (p := 69) (by decide +kernel) rfl rfl ?_
    obtain ⟨z12, h⟩ := fx_gd h
    obtain ⟨z13, h⟩ := fx_gd h
    refine ds_iaload (p := 70) (by decide +kernel) rfl z12 z13 ?_
    obtain ⟨z14, h⟩ := fx_gd h
    obtain ⟨z15, h⟩ := fx_gd h
    refine ds_iaload (p := 71) (by decide +kernel) rfl z14 z15 ?_
    exact de_244_71 hz hd hk_6 _ _ _ _ _ _ _ _ _ _ _ _ h
  · rw [if_neg c2] at h
    refine ds_if_eq_f (off := 7) (t := 57) (p := 53) (by decide +kernel) (by decide +kernel) rfl (fun q => c2 ((gc_eq rfl rfl z1 (by decide)).mp q)) ?_
    refine ds_iconst (n := 1) (p := 54) (by decide +kernel) rfl rfl ?_
    refine ds_goto (off := 17) (p := 71) (by decide +kernel) (by decide +kernel) ?_
    exact de_244_71 hz hd hk_6 _ _ _ _ _ _ _ _ _ _ _ _ h
def dm_244_31 (L : Nat) (xs : Nat → Int32) (k_6 : Nat → Int → Int → Int → Int → Int → Int → gx_S → dS → Option (Int × DS)) (x0 : Nat) (x1 : Int) (x2 : Int) (x3 : Int) (x4 : Int) (x5 : Int) (x6 : Int) (s : gx_S) (δ : dS) : Option (Int × DS) :=
  if (-2147483648 ≤ x3 ∧ x3 ≤ 2147483647) then (
  if x3 < 0 then (
    dm_244_46 L xs k_6 x0 x1 x2 x3 x4 x5 x6 s δ) else (
    if dO δ x0 10 then (
    (δ.P x0 5).bind fun v4 =>
    if dA δ 0 v4 then (
    if dI δ v4 x6 then (
    if (-2147483648 ≤ (δ.I v4 ((x6).toNat)) ∧ (δ.I v4 ((x6).toNat)) ≤ 2147483647) then (
    if ¬ (δ.I v4 ((x6).toNat)) = x3 then (
      dm_244_74 L xs k_6 x0 x1 x2 x3 x4 x5 x6 s δ) else (
      dm_244_46 L xs k_6 x0 x1 x2 x3 x4 x5 x6 s δ)) else none) else none) else none) else none)) else none
theorem de_244_31 {z : iv_Z} {L : Nat} {xs : Nat → Int32} (hz : dZ z L xs) {d : Nat} (hd : 0 ≤ d) {k_6 : Nat → Int → Int → Int → Int → Int → Int → gx_S → dS → Option (Int × DS)} (hk_6 : ∀ (x0 : Nat) (x1 : Int) (x2 : Int) (x3 : Int) (x4 : Int) (x5 : Int) (x6 : Int) (s : gx_S) (δ : dS) (q : Int × DS), k_6 x0 x1 x2 x3 x4 x5 x6 s δ = some q → dE z 244 d 6 [some (.ref x0), some (.int (Int32.ofInt x1)), some (.int (Int32.ofInt x2)), some (.int (Int32.ofInt x3)), some (.int (Int32.ofInt x4)), some (.int (Int32.ofInt x5)), some (.int (Int32.ofInt x6))] [] (s, δ) (some (.int (Int32.ofInt q.1))) q.2) (x0 : Nat) (x1 : Int) (x2 : Int) (x3 : Int) (x4 : Int) (x5 : Int) (x6 : Int) (s : gx_S) (δ : dS) (q : Int × DS) (h : dm_244_31 L xs k_6  x0 x1 x2 x3 x4 x5 x6 s δ = some q) : dE z 244 d 31 [some (.ref x0), some (.int (Int32.ofInt x1)), some (.int (Int32.ofInt x2)), some (.int (Int32.ofInt x3)), some (.int (Int32.ofInt x4)), some (.int (Int32.ofInt x5)), some (.int (Int32.ofInt x6))] [] (s, δ) (some (.int (Int32.ofInt q.1))) q.2 := by
  unfold dm_244_31 at h
  refine ds_iload_n (k := 3) (p := 32) (by decide +kernel) rfl rfl ?_
  obtain ⟨z1, h⟩ := fx_gd h
  by_cases c2 : x3 < 0
  · rw [if_pos c2] at h
    refine ds_if_lt_t (off := 14) (t := 46) (by decide +kernel) (by decide +kernel) ((gc_lt rfl rfl z1 (by decide)).mpr c2) ?_
    exact de_244_46 hz hd hk_6 _ _ _ _ _ _ _ _ _ _ h
  · rw [if_neg c2] at h
    refine ds_if_lt_f (off := 14) (t := 46) (p := 35) (by decide +kernel) (by decide +kernel) rfl (fun q => c2 ((gc_lt rfl rfl z1 (by decide)).mp q)) ?_
    refine ds_aload_n (k := 0) (p := 36) (by decide +kernel) rfl rfl ?_
    obtain ⟨z3, h⟩ := fx_gd h
    obtain ⟨v4, w5, h⟩ := fx_bd h
    refine ds_gfr (idx := 59) (ci := 10) (j := 5) (p := 39) (by decide +kernel) rfl (by decide +kernel) z3 w5 ?_
    refine ds_iload (k := 6) (p := 41) (by decide +kernel) rfl rfl ?_
    obtain ⟨z6, h⟩ := fx_gd h
    obtain ⟨z7, h⟩ := fx_gd h
    refine ds_iaload (p := 42) (by decide +kernel) rfl z6 z7 ?_
    refine ds_iload_n (k := 3) (p := 43) (by decide +kernel) rfl rfl ?_
    obtain ⟨z8, h⟩ := fx_gd h
    by_cases c9 : ¬ (δ.I v4 ((x6).toNat)) = x3
    · rw [if_pos c9] at h
      refine ds_icmp_ne_t (off := 31) (t := 74) (by decide +kernel) (by decide +kernel) ((gc_ne rfl rfl z8 z1).mpr c9) ?_
      exact de_244_74 hz hd hk_6 _ _ _ _ _ _ _ _ _ _ h
    · rw [if_neg c9] at h
      refine ds_icmp_ne_f (off := 31) (t := 74) (p := 46) (by decide +kernel) (by decide +kernel) rfl (fun q => c9 ((gc_ne rfl rfl z8 z1).mp q)) ?_
      exact de_244_46 hz hd hk_6 _ _ _ _ _ _ _ _ _ _ h
def dm_244_6 (L : Nat) (xs : Nat → Int32) : Nat → Nat → Int → Int → Int → Int → Int → Int → gx_S → dS → Option (Int × DS)
  | 0, _, _, _, _, _, _, _, _, _ => none
  | n + 1, x0, x1, x2, x3, x4, x5, x6, s, δ =>
    if dO δ x0 10 then (
    (δ.P x0 4).bind fun v2 =>
    if dA δ 0 v2 then (
    if (-2147483648 ≤ x6 ∧ x6 ≤ 2147483647) then (
    if (-2147483648 ≤ ((δ.sh v2).2 : Int) ∧ ((δ.sh v2).2 : Int) ≤ 2147483647) then (
    if ((δ.sh v2).2 : Int) ≤ x6 then (
      some (x5, s, δ)) else (
      if (-2147483648 ≤ x2 ∧ x2 ≤ 2147483647) then (
      if x2 < 0 then (
        dm_244_31 L xs (dm_244_6 L xs n) x0 x1 x2 x3 x4 x5 x6 s δ) else (
        (δ.P x0 4).bind fun v10 =>
        if dA δ 0 v10 then (
        if dI δ v10 x6 then (
        if (-2147483648 ≤ (δ.I v10 ((x6).toNat)) ∧ (δ.I v10 ((x6).toNat)) ≤ 2147483647) then (
        if ¬ (δ.I v10 ((x6).toNat)) = x2 then (
          dm_244_74 L xs (dm_244_6 L xs n) x0 x1 x2 x3 x4 x5 x6 s δ) else (
          dm_244_31 L xs (dm_244_6 L xs n) x0 x1 x2 x3 x4 x5 x6 s δ)) else none) else none) else none)) else none)) else none) else none) else none) else none
theorem de_244_6 {z : iv_Z} {L : Nat} {xs : Nat → Int32} (hz : dZ z L xs) {d : Nat} (hd : 0 ≤ d) : ∀ (n : Nat) (x0 : Nat) (x1 : Int) (x2 : Int) (x3 : Int) (x4 : Int) (x5 : Int) (x6 : Int) (s : gx_S) (δ : dS) (q : Int × DS), dm_244_6 L xs n x0 x1 x2 x3 x4 x5 x6 s δ = some q → dE z 244 d 6 [some (.ref x0), some (.int (Int32.ofInt x1)), some (.int (Int32.ofInt x2)), some (.int (Int32.ofInt x3)), some (.int (Int32.ofInt x4)), some (.int (Int32.ofInt x5)), some (.int (Int32.ofInt x6))] [] (s, δ) (some (.int (Int32.ofInt q.1))) q.2 := by
  intro n
  induction n with
  | zero =>
    intro x0 x1 x2 x3 x4 x5 x6 s δ q h
    rw [dm_244_6] at h
    exact fx_no h
  | succ n ih =>
    intro x0 x1 x2 x3 x4 x5 x6 s δ q h
    rw [dm_244_6] at h
    refine ds_iload (k := 6) (p := 8) (by decide +kernel) rfl rfl ?_
    refine ds_aload_n (k := 0) (p := 9) (by decide +kernel) rfl rfl ?_
    obtain ⟨z1, h⟩ := fx_gd h
    obtain ⟨v2, w3, h⟩ := fx_bd h
    refine ds_gfr (idx := 55) (ci := 10) (j := 4) (p := 12) (by decide +kernel) rfl (by decide +kernel) z1 w3 ?_
    obtain ⟨z4, h⟩ := fx_gd h
    refine ds_alen (t := 0) (p := 13) (by decide +kernel) rfl z4 (by decide) ?_
    obtain ⟨z5, h⟩ := fx_gd h
    obtain ⟨z6, h⟩ := fx_gd h
    by_cases c7 : ((δ.sh v2).2 : Int) ≤ x6
    · rw [if_pos c7] at h
      refine ds_icmp_ge_t (off := 67) (t := 80) (by decide +kernel) (by decide +kernel) ((gc_le rfl rfl z6 z5).mpr c7) ?_
      refine ds_iload (k := 5) (p := 82) (by decide +kernel) rfl rfl ?_
      have h := Option.some.inj h
      subst h
      exact ds_iret (by decide +kernel) rt_244 rfl
    · rw [if_neg c7] at h
      refine ds_icmp_ge_f (off := 67) (t := 80) (p := 16) (by decide +kernel) (by decide +kernel) rfl (fun q => c7 ((gc_le rfl rfl z6 z5).mp q)) ?_
      refine ds_iload_n (k := 2) (p := 17) (by decide +kernel) rfl rfl ?_
      obtain ⟨z8, h⟩ := fx_gd h
      by_cases c9 : x2 < 0
      · rw [if_pos c9] at h
        refine ds_if_lt_t (off := 14) (t := 31) (by decide +kernel) (by decide +kernel) ((gc_lt rfl rfl z8 (by decide)).mpr c9) ?_
        exact de_244_31 hz hd ih _ _ _ _ _ _ _ _ _ _ h
      · rw [if_neg c9] at h
        refine ds_if_lt_f (off := 14) (t := 31) (p := 20) (by decide +kernel) (by decide +kernel) rfl (fun q => c9 ((gc_lt rfl rfl z8 (by decide)).mp q)) ?_
        refine ds_aload_n (k := 0) (p := 21) (by decide +kernel) rfl rfl ?_
        obtain ⟨v10, w11, h⟩ := fx_bd h
        refine ds_gfr (idx := 55) (ci := 10) (j := 4) (p := 24) (by decide +kernel) rfl (by decide +kernel) z1 w11 ?_
        refine ds_iload (k := 6) (p := 26) (by decide +kernel) rfl rfl ?_
        obtain ⟨z12, h⟩ := fx_gd h
        obtain ⟨z13, h⟩ := fx_gd h
        refine ds_iaload (p := 27) (by decide +kernel) rfl z12 z13 ?_
        refine ds_iload_n (k := 2) (p := 28) (by decide +kernel) rfl rfl ?_
        obtain ⟨z14, h⟩ := fx_gd h
        by_cases c15 : ¬ (δ.I v10 ((x6).toNat)) = x2
        · rw [if_pos c15] at h
          refine ds_icmp_ne_t (off := 46) (t := 74) (by decide +kernel) (by decide +kernel) ((gc_ne rfl rfl z14 z8).mpr c15) ?_
          exact de_244_74 hz hd ih _ _ _ _ _ _ _ _ _ _ h
        · rw [if_neg c15] at h
          refine ds_icmp_ne_f (off := 46) (t := 74) (p := 31) (by decide +kernel) (by decide +kernel) rfl (fun q => c15 ((gc_ne rfl rfl z14 z8).mp q)) ?_
          exact de_244_31 hz hd ih _ _ _ _ _ _ _ _ _ _ h
def dm_244 (L : Nat) (xs : Nat → Int32) (x0 : Nat) (x1 : Int) (x2 : Int) (x3 : Int) (x4 : Int) (s : gx_S) (δ : dS) : Option (Int × DS) :=
  dm_244_6 L xs 100000 x0 x1 x2 x3 x4 0 0 s δ
theorem de_244 {z : iv_Z} {L : Nat} {xs : Nat → Int32} (hz : dZ z L xs) {d : Nat} (hd : 0 ≤ d) {x0 : Nat} {x1 : Int} {x2 : Int} {x3 : Int} {x4 : Int} {s : gx_S} {δ : dS} {q : Int × DS} (h : dm_244 L xs x0 x1 x2 x3 x4 s δ = some q) : dE z 244 d 0 [some (.ref x0), some (.int (Int32.ofInt x1)), some (.int (Int32.ofInt x2)), some (.int (Int32.ofInt x3)), some (.int (Int32.ofInt x4)), none, none] [] (s, δ) (some (.int (Int32.ofInt q.1))) q.2 := by
  unfold dm_244 at h
  refine ds_iconst (n := 0) (p := 1) (by decide +kernel) rfl rfl ?_
  refine ds_istore (k := 5) (p := 3) (M := 7) (al' := [some (.ref x0), some (.int (Int32.ofInt x1)), some (.int (Int32.ofInt x2)), some (.int (Int32.ofInt x3)), some (.int (Int32.ofInt x4)), some (.int (Int32.ofInt 0)), none]) (by decide +kernel) rfl mx_244 rfl rfl ?_
  refine ds_iconst (n := 0) (p := 4) (by decide +kernel) rfl rfl ?_
  refine ds_istore (k := 6) (p := 6) (M := 7) (al' := [some (.ref x0), some (.int (Int32.ofInt x1)), some (.int (Int32.ofInt x2)), some (.int (Int32.ofInt x3)), some (.int (Int32.ofInt x4)), some (.int (Int32.ofInt 0)), some (.int (Int32.ofInt 0))]) (by decide +kernel) rfl mx_244 rfl rfl ?_
  exact de_244_6 hz hd 100000 _ _ _ _ _ _ _ _ _ _ h
/-! ZoneSharesLaw.unknown(LZoneSharesLaw$Map;I)I d -/
theorem mx_246 : iv_mx 246 = 4 := by decide +kernel
theorem rt_246 : iv_rt 246 = some .int := by decide +kernel
def dm_246_40 (L : Nat) (xs : Nat → Int32) (k_12 : Nat → Int → Int → Int → gx_S → dS → Option (Int × DS)) (x0 : Nat) (x1 : Int) (x2 : Int) (x3 : Int) (s : gx_S) (δ : dS) : Option (Int × DS) :=
  k_12 x0 x1 x2 (x3 + 1) s δ
theorem de_246_40 {z : iv_Z} {L : Nat} {xs : Nat → Int32} (hz : dZ z L xs) {d : Nat} (hd : 1 ≤ d) {k_12 : Nat → Int → Int → Int → gx_S → dS → Option (Int × DS)} (hk_12 : ∀ (x0 : Nat) (x1 : Int) (x2 : Int) (x3 : Int) (s : gx_S) (δ : dS) (q : Int × DS), k_12 x0 x1 x2 x3 s δ = some q → dE z 246 d 12 [some (.ref x0), some (.int (Int32.ofInt x1)), some (.int (Int32.ofInt x2)), some (.int (Int32.ofInt x3))] [] (s, δ) (some (.int (Int32.ofInt q.1))) q.2) (x0 : Nat) (x1 : Int) (x2 : Int) (x3 : Int) (s : gx_S) (δ : dS) (q : Int × DS) (h : dm_246_40 L xs k_12  x0 x1 x2 x3 s δ = some q) : dE z 246 d 40 [some (.ref x0), some (.int (Int32.ofInt x1)), some (.int (Int32.ofInt x2)), some (.int (Int32.ofInt x3))] [] (s, δ) (some (.int (Int32.ofInt q.1))) q.2 := by
  unfold dm_246_40 at h
  refine ds_iinc (k := 3) (n := 1) (p := 43) (M := 4) (y := Int32.ofInt (x3 + 1)) (al' := [some (.ref x0), some (.int (Int32.ofInt x1)), some (.int (Int32.ofInt x2)), some (.int (Int32.ofInt (x3 + 1)))]) (by decide +kernel) rfl rfl mx_246 rfl rfl (ga_add rfl rfl) rfl ?_
  refine ds_goto (off := -31) (p := 12) (by decide +kernel) (by decide +kernel) ?_
  exact hk_12 _ _ _ _ _ _ _ h
def dm_246_12 (L : Nat) (xs : Nat → Int32) : Nat → Nat → Int → Int → Int → gx_S → dS → Option (Int × DS)
  | 0, _, _, _, _, _, _ => none
  | n + 1, x0, x1, x2, x3, s, δ =>
    if (-2147483648 ≤ x3 ∧ x3 ≤ 2147483647) then (
    if 8 ≤ x3 then (
      some (x2, s, δ)) else (
      if dO δ x0 10 then (
      (δ.P x0 4).bind fun v4 =>
      (dm_243 L xs v4 x3 s δ).bind fun q6 =>
      if (-2147483648 ≤ q6.1 ∧ q6.1 ≤ 2147483647) then (
      if ¬ q6.1 = 0 then (
        dm_246_40 L xs (dm_246_12 L xs n) x0 x1 x2 x3 q6.2.1 q6.2.2) else (
        if dO q6.2.2 x0 10 then (
        (q6.2.2.P x0 7).bind fun v11 =>
        if dA q6.2.2 6 v11 then (
        if dI q6.2.2 v11 x1 then (
        (q6.2.2.P v11 ((x1).toNat)).bind fun v15 =>
        if dA q6.2.2 0 v15 then (
        if dI q6.2.2 v15 x3 then (
        dm_246_40 L xs (dm_246_12 L xs n) x0 x1 (x2 + (q6.2.2.I v15 ((x3).toNat))) x3 q6.2.1 q6.2.2) else none) else none) else none) else none) else none)) else none) else none)) else none
theorem de_246_12 {z : iv_Z} {L : Nat} {xs : Nat → Int32} (hz : dZ z L xs) {d : Nat} (hd : 1 ≤ d) : ∀ (n : Nat) (x0 : Nat) (x1 : Int) (x2 : Int) (x3 : Int) (s : gx_S) (δ : dS) (q : Int × DS), dm_246_12 L xs n x0 x1 x2 x3 s δ = some q → dE z 246 d 12 [some (.ref x0), some (.int (Int32.ofInt x1)), some (.int (Int32.ofInt x2)), some (.int (Int32.ofInt x3))] [] (s, δ) (some (.int (Int32.ofInt q.1))) q.2 := by
  intro n
  induction n with
  | zero =>
    intro x0 x1 x2 x3 s δ q h
    rw [dm_246_12] at h
    exact fx_no h
  | succ n ih =>
    intro x0 x1 x2 x3 s δ q h
    rw [dm_246_12] at h
    refine ds_iload_n (k := 3) (p := 13) (by decide +kernel) rfl rfl ?_
    refine ds_bipush (n := 8) (p := 15) (by decide +kernel) rfl dkb_8 ?_
    obtain ⟨z1, h⟩ := fx_gd h
    by_cases c2 : 8 ≤ x3
    · rw [if_pos c2] at h
      refine ds_icmp_ge_t (off := 31) (t := 46) (by decide +kernel) (by decide +kernel) ((gc_le rfl rfl (by decide) z1).mpr c2) ?_
      refine ds_iload_n (k := 2) (p := 47) (by decide +kernel) rfl rfl ?_
      have h := Option.some.inj h
      subst h
      exact ds_iret (by decide +kernel) rt_246 rfl
    · rw [if_neg c2] at h
      refine ds_icmp_ge_f (off := 31) (t := 46) (p := 18) (by decide +kernel) (by decide +kernel) rfl (fun q => c2 ((gc_le rfl rfl (by decide) z1).mp q)) ?_
      refine ds_aload_n (k := 0) (p := 19) (by decide +kernel) rfl rfl ?_
      obtain ⟨z3, h⟩ := fx_gd h
      obtain ⟨v4, w5, h⟩ := fx_bd h
      refine ds_gfr (idx := 55) (ci := 10) (j := 4) (p := 22) (by decide +kernel) rfl (by decide +kernel) z3 w5 ?_
      refine ds_iload_n (k := 3) (p := 23) (by decide +kernel) rfl rfl ?_
      obtain ⟨q6, w7, h⟩ := fx_bd h
      refine ds_callS (idx := 115) (mj := 243) (na := 2) (mx := 7) (p := 26) (args := [.ref v4, .int (Int32.ofInt x3)]) (rest := []) (al2 := [some (.ref v4), some (.int (Int32.ofInt x3)), none, none, none, none, none]) (S2 := q6.2) (by decide +kernel) rfl (by decide +kernel) rfl rfl rfl rfl rfl rfl (by omega) (fun d' hd' => de_243 hz (by omega) w7) rfl ?_
      obtain ⟨z8, h⟩ := fx_gd h
      by_cases c9 : ¬ q6.1 = 0
      · rw [if_pos c9] at h
        refine ds_if_ne_t (off := 14) (t := 40) (by decide +kernel) (by decide +kernel) ((gc_ne rfl rfl z8 (by decide)).mpr c9) ?_
        exact de_246_40 hz hd ih _ _ _ _ _ _ _ h
      · rw [if_neg c9] at h
        refine ds_if_ne_f (off := 14) (t := 40) (p := 29) (by decide +kernel) (by decide +kernel) rfl (fun q => c9 ((gc_ne rfl rfl z8 (by decide)).mp q)) ?_
        refine ds_iload_n (k := 2) (p := 30) (by decide +kernel) rfl rfl ?_
        refine ds_aload_n (k := 0) (p := 31) (by decide +kernel) rfl rfl ?_
        obtain ⟨z10, h⟩ := fx_gd h
        obtain ⟨v11, w12, h⟩ := fx_bd h
        refine ds_gfr (idx := 79) (ci := 10) (j := 7) (p := 34) (by decide +kernel) rfl (by decide +kernel) z10 w12 ?_
        refine ds_iload_n (k := 1) (p := 35) (by decide +kernel) rfl rfl ?_
        obtain ⟨z13, h⟩ := fx_gd h
        obtain ⟨z14, h⟩ := fx_gd h
        obtain ⟨v15, w16, h⟩ := fx_bd h
        refine ds_aaload (t := 6) (p := 36) (by decide +kernel) rfl (by decide +kernel) z13 z14 w16 ?_
        refine ds_iload_n (k := 3) (p := 37) (by decide +kernel) rfl rfl ?_
        obtain ⟨z17, h⟩ := fx_gd h
        obtain ⟨z18, h⟩ := fx_gd h
        refine ds_iaload (p := 38) (by decide +kernel) rfl z17 z18 ?_
        refine ds_iadd (p := 39) (c := Int32.ofInt (x2 + (q6.2.2.I v15 ((x3).toNat)))) (by decide +kernel) rfl (ga_add rfl rfl) ?_
        refine ds_istore_n (k := 2) (p := 40) (M := 4) (al' := [some (.ref x0), some (.int (Int32.ofInt x1)), some (.int (Int32.ofInt (x2 + (q6.2.2.I v15 ((x3).toNat))))), some (.int (Int32.ofInt x3))]) (by decide +kernel) rfl mx_246 rfl rfl ?_
        exact de_246_40 hz hd ih _ _ _ _ _ _ _ h
def dm_246 (L : Nat) (xs : Nat → Int32) (x0 : Nat) (x1 : Int) (s : gx_S) (δ : dS) : Option (Int × DS) :=
  if dO δ x0 10 then (
  (δ.P x0 7).bind fun v2 =>
  if dA δ 6 v2 then (
  if dI δ v2 x1 then (
  (δ.P v2 ((x1).toNat)).bind fun v6 =>
  if dA δ 0 v6 then (
  if dI δ v6 8 then (
  dm_246_12 L xs 100000 x0 x1 (δ.I v6 ((8 : Int).toNat)) 0 s δ) else none) else none) else none) else none) else none
theorem de_246 {z : iv_Z} {L : Nat} {xs : Nat → Int32} (hz : dZ z L xs) {d : Nat} (hd : 1 ≤ d) {x0 : Nat} {x1 : Int} {s : gx_S} {δ : dS} {q : Int × DS} (h : dm_246 L xs x0 x1 s δ = some q) : dE z 246 d 0 [some (.ref x0), some (.int (Int32.ofInt x1)), none, none] [] (s, δ) (some (.int (Int32.ofInt q.1))) q.2 := by
  unfold dm_246 at h
  refine ds_aload_n (k := 0) (p := 1) (by decide +kernel) rfl rfl ?_
  obtain ⟨z1, h⟩ := fx_gd h
  obtain ⟨v2, w3, h⟩ := fx_bd h
  refine ds_gfr (idx := 79) (ci := 10) (j := 7) (p := 4) (by decide +kernel) rfl (by decide +kernel) z1 w3 ?_
  refine ds_iload_n (k := 1) (p := 5) (by decide +kernel) rfl rfl ?_
  obtain ⟨z4, h⟩ := fx_gd h
  obtain ⟨z5, h⟩ := fx_gd h
  obtain ⟨v6, w7, h⟩ := fx_bd h
  refine ds_aaload (t := 6) (p := 6) (by decide +kernel) rfl (by decide +kernel) z4 z5 w7 ?_
  refine ds_bipush (n := 8) (p := 8) (by decide +kernel) rfl dkb_8 ?_
  obtain ⟨z8, h⟩ := fx_gd h
  obtain ⟨z9, h⟩ := fx_gd h
  refine ds_iaload (p := 9) (by decide +kernel) rfl z8 z9 ?_
  refine ds_istore_n (k := 2) (p := 10) (M := 4) (al' := [some (.ref x0), some (.int (Int32.ofInt x1)), some (.int (Int32.ofInt (δ.I v6 ((8 : Int).toNat)))), none]) (by decide +kernel) rfl mx_246 rfl rfl ?_
  refine ds_iconst (n := 0) (p := 11) (by decide +kernel) rfl rfl ?_
  refine ds_istore_n (k := 3) (p := 12) (M := 4) (al' := [some (.ref x0), some (.int (Int32.ofInt x1)), some (.int (Int32.ofInt (δ.I v6 ((8 : Int).toNat)))), some (.int (Int32.ofInt 0))]) (by decide +kernel) rfl mx_246 rfl rfl ?_
  exact de_246_12 hz hd 100000 _ _ _ _ _ _ _ h
/-! ZoneSharesLaw.hasOld(LZoneSharesLaw$Map;)Z d -/
theorem mx_247 : iv_mx 247 = 5 := by decide +kernel
theorem rt_247 : iv_rt 247 = some .boolean := by decide +kernel
def dm_247_10 (L : Nat) (xs : Nat → Int32) : Nat → Nat → Int → Int → gx_S → dS → Option (Int × DS)
  | 0, _, _, _, _, _ => none
  | n + 1, x1, x2, x3, s, δ =>
    if (-2147483648 ≤ x3 ∧ x3 ≤ 2147483647) then (
    if (-2147483648 ≤ x2 ∧ x2 ≤ 2147483647) then (
    if x2 ≤ x3 then (
      some (0, s, δ)) else (
      if dA δ 0 x1 then (
      if dI δ x1 x3 then (
      if (-2147483648 ≤ (δ.I x1 ((x3).toNat)) ∧ (δ.I x1 ((x3).toNat)) ≤ 2147483647) then (
      if 8 ≤ (δ.I x1 ((x3).toNat)) then (
        dm_247_10 L xs n x1 x2 (x3 + 1) s δ) else (
        some (1, s, δ))) else none) else none) else none)) else none) else none
theorem de_247_10 {z : iv_Z} {L : Nat} {xs : Nat → Int32} (hz : dZ z L xs) {d : Nat} (hd : 0 ≤ d) : ∀ (n : Nat) (x1 : Nat) (x2 : Int) (x3 : Int) (o0 : Option Value) (o4 : Option Value) (s : gx_S) (δ : dS) (q : Int × DS), dm_247_10 L xs n x1 x2 x3 s δ = some q → dE z 247 d 10 [o0, some (.ref x1), some (.int (Int32.ofInt x2)), some (.int (Int32.ofInt x3)), o4] [] (s, δ) (some (.int (Int32.ofInt q.1))) q.2 := by
  intro n
  induction n with
  | zero =>
    intro x1 x2 x3 o0 o4 s δ q h
    rw [dm_247_10] at h
    exact fx_no h
  | succ n ih =>
    intro x1 x2 x3 o0 o4 s δ q h
    rw [dm_247_10] at h
    refine ds_iload_n (k := 3) (p := 11) (by decide +kernel) rfl rfl ?_
    refine ds_iload_n (k := 2) (p := 12) (by decide +kernel) rfl rfl ?_
    obtain ⟨z1, h⟩ := fx_gd h
    obtain ⟨z2, h⟩ := fx_gd h
    by_cases c3 : x2 ≤ x3
    · rw [if_pos c3] at h
      refine ds_icmp_ge_t (off := 23) (t := 35) (by decide +kernel) (by decide +kernel) ((gc_le rfl rfl z2 z1).mpr c3) ?_
      refine ds_iconst (n := 0) (p := 36) (by decide +kernel) rfl rfl ?_
      have h := Option.some.inj h
      subst h
      exact ds_iret (by decide +kernel) rt_247 (by decide +kernel)
    · rw [if_neg c3] at h
      refine ds_icmp_ge_f (off := 23) (t := 35) (p := 15) (by decide +kernel) (by decide +kernel) rfl (fun q => c3 ((gc_le rfl rfl z2 z1).mp q)) ?_
      refine ds_aload_n (k := 1) (p := 16) (by decide +kernel) rfl rfl ?_
      refine ds_iload_n (k := 3) (p := 17) (by decide +kernel) rfl rfl ?_
      obtain ⟨z4, h⟩ := fx_gd h
      obtain ⟨z5, h⟩ := fx_gd h
      refine ds_iaload (p := 18) (by decide +kernel) rfl z4 z5 ?_
      refine ds_istore (k := 4) (p := 20) (M := 5) (al' := [o0, some (.ref x1), some (.int (Int32.ofInt x2)), some (.int (Int32.ofInt x3)), some (.int (Int32.ofInt (δ.I x1 ((x3).toNat))))]) (by decide +kernel) rfl mx_247 rfl rfl ?_
      refine ds_iload (k := 4) (p := 22) (by decide +kernel) rfl rfl ?_
      refine ds_bipush (n := 8) (p := 24) (by decide +kernel) rfl dkb_8 ?_
      obtain ⟨z6, h⟩ := fx_gd h
      by_cases c7 : 8 ≤ (δ.I x1 ((x3).toNat))
      · rw [if_pos c7] at h
        refine ds_icmp_ge_t (off := 5) (t := 29) (by decide +kernel) (by decide +kernel) ((gc_le rfl rfl (by decide) z6).mpr c7) ?_
        refine ds_iinc (k := 3) (n := 1) (p := 32) (M := 5) (y := Int32.ofInt (x3 + 1)) (al' := [o0, some (.ref x1), some (.int (Int32.ofInt x2)), some (.int (Int32.ofInt (x3 + 1))), some (.int (Int32.ofInt (δ.I x1 ((x3).toNat))))]) (by decide +kernel) rfl rfl mx_247 rfl rfl (ga_add rfl rfl) rfl ?_
        refine ds_goto (off := -22) (p := 10) (by decide +kernel) (by decide +kernel) ?_
        exact ih _ _ _ _ _ _ _ _ h
      · rw [if_neg c7] at h
        refine ds_icmp_ge_f (off := 5) (t := 29) (p := 27) (by decide +kernel) (by decide +kernel) rfl (fun q => c7 ((gc_le rfl rfl (by decide) z6).mp q)) ?_
        refine ds_iconst (n := 1) (p := 28) (by decide +kernel) rfl rfl ?_
        have h := Option.some.inj h
        subst h
        exact ds_iret (by decide +kernel) rt_247 (by decide +kernel)
def dm_247 (L : Nat) (xs : Nat → Int32) (x0 : Nat) (s : gx_S) (δ : dS) : Option (Int × DS) :=
  if dO δ x0 10 then (
  (δ.P x0 4).bind fun v2 =>
  if dA δ 0 v2 then (
  dm_247_10 L xs 100000 v2 ((δ.sh v2).2 : Int) 0 s δ) else none) else none
theorem de_247 {z : iv_Z} {L : Nat} {xs : Nat → Int32} (hz : dZ z L xs) {d : Nat} (hd : 0 ≤ d) {x0 : Nat} {s : gx_S} {δ : dS} {q : Int × DS} (h : dm_247 L xs x0 s δ = some q) : dE z 247 d 0 [some (.ref x0), none, none, none, none] [] (s, δ) (some (.int (Int32.ofInt q.1))) q.2 := by
  unfold dm_247 at h
  refine ds_aload_n (k := 0) (p := 1) (by decide +kernel) rfl rfl ?_
  obtain ⟨z1, h⟩ := fx_gd h
  obtain ⟨v2, w3, h⟩ := fx_bd h
  refine ds_gfr (idx := 55) (ci := 10) (j := 4) (p := 4) (by decide +kernel) rfl (by decide +kernel) z1 w3 ?_
  refine ds_astore_n (k := 1) (p := 5) (M := 5) (al' := [some (.ref x0), some (.ref v2), none, none, none]) (by decide +kernel) rfl mx_247 rfl rfl ?_
  refine ds_aload_n (k := 1) (p := 6) (by decide +kernel) rfl rfl ?_
  obtain ⟨z4, h⟩ := fx_gd h
  refine ds_alen (t := 0) (p := 7) (by decide +kernel) rfl z4 (by decide) ?_
  refine ds_istore_n (k := 2) (p := 8) (M := 5) (al' := [some (.ref x0), some (.ref v2), some (.int (Int32.ofInt ((δ.sh v2).2 : Int))), none, none]) (by decide +kernel) rfl mx_247 rfl rfl ?_
  refine ds_iconst (n := 0) (p := 9) (by decide +kernel) rfl rfl ?_
  refine ds_istore_n (k := 3) (p := 10) (M := 5) (al' := [some (.ref x0), some (.ref v2), some (.int (Int32.ofInt ((δ.sh v2).2 : Int))), some (.int (Int32.ofInt 0)), none]) (by decide +kernel) rfl mx_247 rfl rfl ?_
  exact de_247_10 hz hd 100000 _ _ _ _ _ _ _ _ h
/-! ZoneSharesLaw.whole([I)J d -/
theorem mx_253 : iv_mx 253 = 7 := by decide +kernel
theorem rt_253 : iv_rt 253 = some .long := by decide +kernel
def dm_253_11 (L : Nat) (xs : Nat → Int32) : Nat → Int → Nat → Int → Int → gx_S → dS → Option (Int × DS)
  | 0, _, _, _, _, _, _ => none
  | n + 1, x1, x3, x4, x5, s, δ =>
    if (-2147483648 ≤ x5 ∧ x5 ≤ 2147483647) then (
    if (-2147483648 ≤ x4 ∧ x4 ≤ 2147483647) then (
    if x4 ≤ x5 then (
      some (x1, s, δ)) else (
      if dA δ 0 x3 then (
      if dI δ x3 x5 then (
      if (-2147483648 ≤ (δ.I x3 ((x5).toNat)) ∧ (δ.I x3 ((x5).toNat)) ≤ 2147483647) then (
      dm_253_11 L xs n (x1 + (δ.I x3 ((x5).toNat))) x3 x4 (x5 + 1) s δ) else none) else none) else none)) else none) else none
theorem de_253_11 {z : iv_Z} {L : Nat} {xs : Nat → Int32} (hz : dZ z L xs) {d : Nat} (hd : 0 ≤ d) : ∀ (n : Nat) (x1 : Int) (x3 : Nat) (x4 : Int) (x5 : Int) (o0 : Option Value) (o6 : Option Value) (s : gx_S) (δ : dS) (q : Int × DS), dm_253_11 L xs n x1 x3 x4 x5 s δ = some q → dE z 253 d 11 [o0, some (.long (Int64.ofInt x1)), none, some (.ref x3), some (.int (Int32.ofInt x4)), some (.int (Int32.ofInt x5)), o6] [] (s, δ) (some (.long (Int64.ofInt q.1))) q.2 := by
  intro n
  induction n with
  | zero =>
    intro x1 x3 x4 x5 o0 o6 s δ q h
    rw [dm_253_11] at h
    exact fx_no h
  | succ n ih =>
    intro x1 x3 x4 x5 o0 o6 s δ q h
    rw [dm_253_11] at h
    refine ds_iload (k := 5) (p := 13) (by decide +kernel) rfl rfl ?_
    refine ds_iload (k := 4) (p := 15) (by decide +kernel) rfl rfl ?_
    obtain ⟨z1, h⟩ := fx_gd h
    obtain ⟨z2, h⟩ := fx_gd h
    by_cases c3 : x4 ≤ x5
    · rw [if_pos c3] at h
      refine ds_icmp_ge_t (off := 21) (t := 36) (by decide +kernel) (by decide +kernel) ((gc_le rfl rfl z2 z1).mpr c3) ?_
      refine ds_lload_n (k := 1) (p := 37) (by decide +kernel) rfl rfl ?_
      have h := Option.some.inj h
      subst h
      exact ds_lret (by decide +kernel) rt_253
    · rw [if_neg c3] at h
      refine ds_icmp_ge_f (off := 21) (t := 36) (p := 18) (by decide +kernel) (by decide +kernel) rfl (fun q => c3 ((gc_le rfl rfl z2 z1).mp q)) ?_
      refine ds_aload_n (k := 3) (p := 19) (by decide +kernel) rfl rfl ?_
      refine ds_iload (k := 5) (p := 21) (by decide +kernel) rfl rfl ?_
      obtain ⟨z4, h⟩ := fx_gd h
      obtain ⟨z5, h⟩ := fx_gd h
      refine ds_iaload (p := 22) (by decide +kernel) rfl z4 z5 ?_
      refine ds_istore (k := 6) (p := 24) (M := 7) (al' := [o0, some (.long (Int64.ofInt x1)), none, some (.ref x3), some (.int (Int32.ofInt x4)), some (.int (Int32.ofInt x5)), some (.int (Int32.ofInt (δ.I x3 ((x5).toNat))))]) (by decide +kernel) rfl mx_253 rfl rfl ?_
      refine ds_lload_n (k := 1) (p := 25) (by decide +kernel) rfl rfl ?_
      refine ds_iload (k := 6) (p := 27) (by decide +kernel) rfl rfl ?_
      obtain ⟨z6, h⟩ := fx_gd h
      refine ds_i2l (p := 28) (c := Int64.ofInt (δ.I x3 ((x5).toNat))) (by decide +kernel) rfl (ga_i2l rfl z6) ?_
      refine ds_ladd (p := 29) (c := Int64.ofInt (x1 + (δ.I x3 ((x5).toNat)))) (by decide +kernel) rfl (gal_add rfl rfl) ?_
      refine ds_lstore_n (k := 1) (p := 30) (M := 7) (al' := [(fx_kl o0), some (.long (Int64.ofInt (x1 + (δ.I x3 ((x5).toNat))))), none, some (.ref x3), some (.int (Int32.ofInt x4)), some (.int (Int32.ofInt x5)), some (.int (Int32.ofInt (δ.I x3 ((x5).toNat))))]) (by decide +kernel) rfl mx_253 rfl rfl ?_
      refine ds_iinc (k := 5) (n := 1) (p := 33) (M := 7) (y := Int32.ofInt (x5 + 1)) (al' := [(fx_kl o0), some (.long (Int64.ofInt (x1 + (δ.I x3 ((x5).toNat))))), none, some (.ref x3), some (.int (Int32.ofInt x4)), some (.int (Int32.ofInt (x5 + 1))), some (.int (Int32.ofInt (δ.I x3 ((x5).toNat))))]) (by decide +kernel) rfl rfl mx_253 rfl rfl (ga_add rfl rfl) rfl ?_
      refine ds_goto (off := -22) (p := 11) (by decide +kernel) (by decide +kernel) ?_
      exact ih _ _ _ _ _ _ _ _ _ h
def dm_253 (L : Nat) (xs : Nat → Int32) (x0 : Nat) (s : gx_S) (δ : dS) : Option (Int × DS) :=
  if dA δ 0 x0 then (
  dm_253_11 L xs 100000 0 x0 ((δ.sh x0).2 : Int) 0 s δ) else none
theorem de_253 {z : iv_Z} {L : Nat} {xs : Nat → Int32} (hz : dZ z L xs) {d : Nat} (hd : 0 ≤ d) {x0 : Nat} {s : gx_S} {δ : dS} {q : Int × DS} (h : dm_253 L xs x0 s δ = some q) : dE z 253 d 0 [some (.ref x0), none, none, none, none, none, none] [] (s, δ) (some (.long (Int64.ofInt q.1))) q.2 := by
  unfold dm_253 at h
  refine ds_lconst (n := 0) (p := 1) (by decide +kernel) rfl dl_0 ?_
  refine ds_lstore_n (k := 1) (p := 2) (M := 7) (al' := [some (.ref x0), some (.long (Int64.ofInt 0)), none, none, none, none, none]) (by decide +kernel) rfl mx_253 rfl rfl ?_
  refine ds_aload_n (k := 0) (p := 3) (by decide +kernel) rfl rfl ?_
  refine ds_astore_n (k := 3) (p := 4) (M := 7) (al' := [some (.ref x0), some (.long (Int64.ofInt 0)), none, some (.ref x0), none, none, none]) (by decide +kernel) rfl mx_253 rfl rfl ?_
  refine ds_aload_n (k := 3) (p := 5) (by decide +kernel) rfl rfl ?_
  obtain ⟨z1, h⟩ := fx_gd h
  refine ds_alen (t := 0) (p := 6) (by decide +kernel) rfl z1 (by decide) ?_
  refine ds_istore (k := 4) (p := 8) (M := 7) (al' := [some (.ref x0), some (.long (Int64.ofInt 0)), none, some (.ref x0), some (.int (Int32.ofInt ((δ.sh x0).2 : Int))), none, none]) (by decide +kernel) rfl mx_253 rfl rfl ?_
  refine ds_iconst (n := 0) (p := 9) (by decide +kernel) rfl rfl ?_
  refine ds_istore (k := 5) (p := 11) (M := 7) (al' := [some (.ref x0), some (.long (Int64.ofInt 0)), none, some (.ref x0), some (.int (Int32.ofInt ((δ.sh x0).2 : Int))), some (.int (Int32.ofInt 0)), none]) (by decide +kernel) rfl mx_253 rfl rfl ?_
  exact de_253_11 hz hd 100000 _ _ _ _ _ _ _ _ _ h
/-! java/lang/StringLatin1.equals([B[B)Z d d -/
theorem mx_287 : iv_mx 287 = 3 := by decide +kernel
theorem rt_287 : iv_rt 287 = some .boolean := by decide +kernel
def dm_287_9 : Nat → Nat → Nat → Int → gx_S → dS → Option (Int × DS)
  | 0, _, _, _, _, _ => none
  | n + 1, x0, x1, x2, s, δ =>
    if dA δ 3 x0 then (
    if (-2147483648 ≤ x2 ∧ x2 ≤ 2147483647) then (
    if (-2147483648 ≤ ((δ.sh x0).2 : Int) ∧ ((δ.sh x0).2 : Int) ≤ 2147483647) then (
    if ((δ.sh x0).2 : Int) ≤ x2 then (
      some (1, s, δ)) else (
      if dI δ x0 x2 then (
      if dA δ 3 x1 then (
      if dI δ x1 x2 then (
      if (-2147483648 ≤ (δ.I x0 ((x2).toNat)) ∧ (δ.I x0 ((x2).toNat)) ≤ 2147483647) then (
      if (-2147483648 ≤ (δ.I x1 ((x2).toNat)) ∧ (δ.I x1 ((x2).toNat)) ≤ 2147483647) then (
      if (δ.I x0 ((x2).toNat)) = (δ.I x1 ((x2).toNat)) then (
        dm_287_9 n x0 x1 (x2 + 1) s δ) else (
        some (0, s, δ))) else none) else none) else none) else none) else none)) else none) else none) else none
theorem de_287_9 {z : iv_Z} {L : Nat} {xs : Nat → Int32} (hz : dZ z L xs) {d : Nat} (hd : 0 ≤ d) : ∀ (n : Nat) (x0 : Nat) (x1 : Nat) (x2 : Int) (s : gx_S) (δ : dS) (q : Int × DS), dm_287_9 n x0 x1 x2 s δ = some q → dE z 287 d 9 [some (.ref x0), some (.ref x1), some (.int (Int32.ofInt x2))] [] (s, δ) (some (.int (Int32.ofInt q.1))) q.2 := by
  intro n
  induction n with
  | zero =>
    intro x0 x1 x2 s δ q h
    rw [dm_287_9] at h
    exact fx_no h
  | succ n ih =>
    intro x0 x1 x2 s δ q h
    rw [dm_287_9] at h
    refine ds_iload_n (k := 2) (p := 10) (by decide +kernel) rfl rfl ?_
    refine ds_aload_n (k := 0) (p := 11) (by decide +kernel) rfl rfl ?_
    obtain ⟨z1, h⟩ := fx_gd h
    refine ds_alen (t := 3) (p := 12) (by decide +kernel) rfl z1 (by decide) ?_
    obtain ⟨z2, h⟩ := fx_gd h
    obtain ⟨z3, h⟩ := fx_gd h
    by_cases c4 : ((δ.sh x0).2 : Int) ≤ x2
    · rw [if_pos c4] at h
      refine ds_icmp_ge_t (off := 20) (t := 32) (by decide +kernel) (by decide +kernel) ((gc_le rfl rfl z3 z2).mpr c4) ?_
      refine ds_iconst (n := 1) (p := 33) (by decide +kernel) rfl rfl ?_
      have h := Option.some.inj h
      subst h
      exact ds_iret (by decide +kernel) rt_287 (by decide +kernel)
    · rw [if_neg c4] at h
      refine ds_icmp_ge_f (off := 20) (t := 32) (p := 15) (by decide +kernel) (by decide +kernel) rfl (fun q => c4 ((gc_le rfl rfl z3 z2).mp q)) ?_
      refine ds_aload_n (k := 0) (p := 16) (by decide +kernel) rfl rfl ?_
      refine ds_iload_n (k := 2) (p := 17) (by decide +kernel) rfl rfl ?_
      obtain ⟨z5, h⟩ := fx_gd h
      refine ds_baload3 (p := 18) (by decide +kernel) rfl z1 z5 ?_
      refine ds_aload_n (k := 1) (p := 19) (by decide +kernel) rfl rfl ?_
      refine ds_iload_n (k := 2) (p := 20) (by decide +kernel) rfl rfl ?_
      obtain ⟨z6, h⟩ := fx_gd h
      obtain ⟨z7, h⟩ := fx_gd h
      refine ds_baload3 (p := 21) (by decide +kernel) rfl z6 z7 ?_
      obtain ⟨z8, h⟩ := fx_gd h
      obtain ⟨z9, h⟩ := fx_gd h
      by_cases c10 : (δ.I x0 ((x2).toNat)) = (δ.I x1 ((x2).toNat))
      · rw [if_pos c10] at h
        refine ds_icmp_eq_t (off := 5) (t := 26) (by decide +kernel) (by decide +kernel) ((gc_eq rfl rfl z8 z9).mpr c10) ?_
        refine ds_iinc (k := 2) (n := 1) (p := 29) (M := 3) (y := Int32.ofInt (x2 + 1)) (al' := [some (.ref x0), some (.ref x1), some (.int (Int32.ofInt (x2 + 1)))]) (by decide +kernel) rfl rfl mx_287 rfl rfl (ga_add rfl rfl) rfl ?_
        refine ds_goto (off := -20) (p := 9) (by decide +kernel) (by decide +kernel) ?_
        exact ih _ _ _ _ _ _ h
      · rw [if_neg c10] at h
        refine ds_icmp_eq_f (off := 5) (t := 26) (p := 24) (by decide +kernel) (by decide +kernel) rfl (fun q => c10 ((gc_eq rfl rfl z8 z9).mp q)) ?_
        refine ds_iconst (n := 0) (p := 25) (by decide +kernel) rfl rfl ?_
        have h := Option.some.inj h
        subst h
        exact ds_iret (by decide +kernel) rt_287 (by decide +kernel)
def dm_287 (x0 : Nat) (x1 : Nat) (s : gx_S) (δ : dS) : Option (Int × DS) :=
  if dA δ 3 x0 then (
  if dA δ 3 x1 then (
  if (-2147483648 ≤ ((δ.sh x0).2 : Int) ∧ ((δ.sh x0).2 : Int) ≤ 2147483647) then (
  if (-2147483648 ≤ ((δ.sh x1).2 : Int) ∧ ((δ.sh x1).2 : Int) ≤ 2147483647) then (
  if ¬ ((δ.sh x0).2 : Int) = ((δ.sh x1).2 : Int) then (
    some (0, s, δ)) else (
    dm_287_9 100000 x0 x1 0 s δ)) else none) else none) else none) else none
theorem de_287 {z : iv_Z} {L : Nat} {xs : Nat → Int32} (hz : dZ z L xs) {d : Nat} (hd : 0 ≤ d) {x0 : Nat} {x1 : Nat} {s : gx_S} {δ : dS} {q : Int × DS} (h : dm_287 x0 x1 s δ = some q) : dE z 287 d 0 [some (.ref x0), some (.ref x1), none] [] (s, δ) (some (.int (Int32.ofInt q.1))) q.2 := by
  unfold dm_287 at h
  refine ds_aload_n (k := 0) (p := 1) (by decide +kernel) rfl rfl ?_
  obtain ⟨z1, h⟩ := fx_gd h
  refine ds_alen (t := 3) (p := 2) (by decide +kernel) rfl z1 (by decide) ?_
  refine ds_aload_n (k := 1) (p := 3) (by decide +kernel) rfl rfl ?_
  obtain ⟨z2, h⟩ := fx_gd h
  refine ds_alen (t := 3) (p := 4) (by decide +kernel) rfl z2 (by decide) ?_
  obtain ⟨z3, h⟩ := fx_gd h
  obtain ⟨z4, h⟩ := fx_gd h
  by_cases c5 : ¬ ((δ.sh x0).2 : Int) = ((δ.sh x1).2 : Int)
  · rw [if_pos c5] at h
    refine ds_icmp_ne_t (off := 30) (t := 34) (by decide +kernel) (by decide +kernel) ((gc_ne rfl rfl z3 z4).mpr c5) ?_
    refine ds_iconst (n := 0) (p := 35) (by decide +kernel) rfl rfl ?_
    have h := Option.some.inj h
    subst h
    exact ds_iret (by decide +kernel) rt_287 (by decide +kernel)
  · rw [if_neg c5] at h
    refine ds_icmp_ne_f (off := 30) (t := 34) (p := 7) (by decide +kernel) (by decide +kernel) rfl (fun q => c5 ((gc_ne rfl rfl z3 z4).mp q)) ?_
    refine ds_iconst (n := 0) (p := 8) (by decide +kernel) rfl rfl ?_
    refine ds_istore_n (k := 2) (p := 9) (M := 3) (al' := [some (.ref x0), some (.ref x1), some (.int (Int32.ofInt 0))]) (by decide +kernel) rfl mx_287 rfl rfl ?_
    exact de_287_9 hz hd 100000 _ _ _ _ _ _ h
/-! java/lang/String.equals(Ljava/lang/Object;)Z d d -/
theorem mx_280 : iv_mx 280 = 3 := by decide +kernel
theorem rt_280 : iv_rt 280 = some .boolean := by decide +kernel
def dm_280_36 (x0 : Nat) (x2 : Nat) (s : gx_S) (δ : dS) : Option (Int × DS) :=
  if dO δ x0 12 then (
  (δ.P x0 0).bind fun v2 =>
  if dO δ x2 12 then (
  (δ.P x2 0).bind fun v5 =>
  (dm_287 v2 v5 s δ).bind fun q7 =>
  if (-2147483648 ≤ q7.1 ∧ q7.1 ≤ 2147483647) then (
  if q7.1 = 0 then (
    some (0, q7.2.1, q7.2.2)) else (
    some (1, q7.2.1, q7.2.2))) else none) else none) else none
theorem de_280_36 {z : iv_Z} {L : Nat} {xs : Nat → Int32} (hz : dZ z L xs) {d : Nat} (hd : 1 ≤ d) (x0 : Nat) (x2 : Nat) (o1 : Option Value) (s : gx_S) (δ : dS) (q : Int × DS) (h : dm_280_36  x0 x2 s δ = some q) : dE z 280 d 36 [some (.ref x0), o1, some (.ref x2)] [] (s, δ) (some (.int (Int32.ofInt q.1))) q.2 := by
  unfold dm_280_36 at h
  refine ds_aload_n (k := 0) (p := 37) (by decide +kernel) rfl rfl ?_
  obtain ⟨z1, h⟩ := fx_gd h
  obtain ⟨v2, w3, h⟩ := fx_bd h
  refine ds_gfr (idx := 9) (ci := 12) (j := 0) (p := 40) (by decide +kernel) rfl (by decide +kernel) z1 w3 ?_
  refine ds_aload_n (k := 2) (p := 41) (by decide +kernel) rfl rfl ?_
  obtain ⟨z4, h⟩ := fx_gd h
  obtain ⟨v5, w6, h⟩ := fx_bd h
  refine ds_gfr (idx := 9) (ci := 12) (j := 0) (p := 44) (by decide +kernel) rfl (by decide +kernel) z4 w6 ?_
  obtain ⟨q7, w8, h⟩ := fx_bd h
  refine ds_callS (idx := 541) (mj := 287) (na := 2) (mx := 3) (p := 47) (args := [.ref v2, .ref v5]) (rest := []) (al2 := [some (.ref v2), some (.ref v5), none]) (S2 := q7.2) (by decide +kernel) rfl (by decide +kernel) rfl rfl rfl rfl rfl rfl (by omega) (fun d' hd' => de_287 hz (by omega) w8) rfl ?_
  obtain ⟨z9, h⟩ := fx_gd h
  by_cases c10 : q7.1 = 0
  · rw [if_pos c10] at h
    refine ds_if_eq_t (off := 7) (t := 54) (by decide +kernel) (by decide +kernel) ((gc_eq rfl rfl z9 (by decide)).mpr c10) ?_
    refine ds_iconst (n := 0) (p := 55) (by decide +kernel) rfl rfl ?_
    have h := Option.some.inj h
    subst h
    exact ds_iret (by decide +kernel) rt_280 (by decide +kernel)
  · rw [if_neg c10] at h
    refine ds_if_eq_f (off := 7) (t := 54) (p := 50) (by decide +kernel) (by decide +kernel) rfl (fun q => c10 ((gc_eq rfl rfl z9 (by decide)).mp q)) ?_
    refine ds_iconst (n := 1) (p := 51) (by decide +kernel) rfl rfl ?_
    refine ds_goto (off := 4) (p := 55) (by decide +kernel) (by decide +kernel) ?_
    have h := Option.some.inj h
    subst h
    exact ds_iret (by decide +kernel) rt_280 (by decide +kernel)
def dm_280 (x0 : Nat) (x1 : Nat) (s : gx_S) (δ : dS) : Option (Int × DS) :=
  if ¬ x0 = x1 then (
    if dO δ x1 12 then (
    if dO δ x0 12 then (
    if (-2147483648 ≤ (δ.I x0 1) ∧ (δ.I x0 1) ≤ 2147483647) then (
    if (-2147483648 ≤ (δ.I x1 1) ∧ (δ.I x1 1) ≤ 2147483647) then (
    if ¬ (δ.I x0 1) = (δ.I x1 1) then (
      some (0, s, δ)) else (
      dm_280_36 x0 x1 s δ)) else none) else none) else none) else none) else (
    some (1, s, δ))
theorem de_280 {z : iv_Z} {L : Nat} {xs : Nat → Int32} (hz : dZ z L xs) {d : Nat} (hd : 1 ≤ d) {x0 : Nat} {x1 : Nat} {s : gx_S} {δ : dS} {q : Int × DS} (h : dm_280 x0 x1 s δ = some q) : dE z 280 d 0 [some (.ref x0), some (.ref x1), none] [] (s, δ) (some (.int (Int32.ofInt q.1))) q.2 := by
  unfold dm_280 at h
  refine ds_aload_n (k := 0) (p := 1) (by decide +kernel) rfl rfl ?_
  refine ds_aload_n (k := 1) (p := 2) (by decide +kernel) rfl rfl ?_
  by_cases c1 : ¬ x0 = x1
  · rw [if_pos c1] at h
    refine ds_acmp_ne_t (off := 5) (t := 7) (by decide +kernel) (by decide +kernel) c1 ?_
    refine ds_aload_n (k := 1) (p := 8) (by decide +kernel) rfl rfl ?_
    obtain ⟨z2, h⟩ := fx_gd h
    refine ds_inst (idx := 10) (ci := 12) (p := 11) (by decide +kernel) rfl (by decide +kernel) z2 ?_
    refine ds_if_eq_f (off := 43) (t := 54) (p := 14) (by decide +kernel) (by decide +kernel) rfl (fun q => absurd ((gc_eq (x := 1) (y := 0) rfl rfl (by decide) (by decide)).mp q) (by decide)) ?_
    refine ds_aload_n (k := 1) (p := 15) (by decide +kernel) rfl rfl ?_
    refine ds_castO (idx := 10) (ci := 12) (p := 18) (by decide +kernel) rfl (by decide +kernel) (by decide +kernel) z2 ?_
    refine ds_astore_n (k := 2) (p := 19) (M := 3) (al' := [some (.ref x0), some (.ref x1), some (.ref x1)]) (by decide +kernel) rfl mx_280 rfl rfl ?_
    refine ds_gets0 (idx := 38) (p := 22) (by decide +kernel) rfl (by decide +kernel) ?_
    refine ds_if_eq_f (off := 14) (t := 36) (p := 25) (by decide +kernel) (by decide +kernel) rfl (fun q => absurd ((gc_eq (x := 1) (y := 0) rfl rfl (by decide) (by decide)).mp q) (by decide)) ?_
    refine ds_aload_n (k := 0) (p := 26) (by decide +kernel) rfl rfl ?_
    obtain ⟨z3, h⟩ := fx_gd h
    refine ds_gfi (idx := 15) (ci := 12) (j := 1) (p := 29) (by decide +kernel) rfl (by decide +kernel) z3 ?_
    refine ds_aload_n (k := 2) (p := 30) (by decide +kernel) rfl rfl ?_
    refine ds_gfi (idx := 15) (ci := 12) (j := 1) (p := 33) (by decide +kernel) rfl (by decide +kernel) z2 ?_
    obtain ⟨z4, h⟩ := fx_gd h
    obtain ⟨z5, h⟩ := fx_gd h
    by_cases c6 : ¬ (δ.I x0 1) = (δ.I x1 1)
    · rw [if_pos c6] at h
      refine ds_icmp_ne_t (off := 21) (t := 54) (by decide +kernel) (by decide +kernel) ((gc_ne rfl rfl z4 z5).mpr c6) ?_
      refine ds_iconst (n := 0) (p := 55) (by decide +kernel) rfl rfl ?_
      have h := Option.some.inj h
      subst h
      exact ds_iret (by decide +kernel) rt_280 (by decide +kernel)
    · rw [if_neg c6] at h
      refine ds_icmp_ne_f (off := 21) (t := 54) (p := 36) (by decide +kernel) (by decide +kernel) rfl (fun q => c6 ((gc_ne rfl rfl z4 z5).mp q)) ?_
      exact de_280_36 hz hd _ _ _ _ _ _ h
  · rw [if_neg c1] at h
    refine ds_acmp_ne_f (off := 5) (t := 7) (p := 5) (by decide +kernel) (by decide +kernel) rfl (Classical.not_not.mp c1) ?_
    refine ds_iconst (n := 1) (p := 6) (by decide +kernel) rfl rfl ?_
    have h := Option.some.inj h
    subst h
    exact ds_iret (by decide +kernel) rt_280 (by decide +kernel)
/-! java/lang/Integer.stringSize(I)I  -/
theorem mx_274 : iv_mx 274 = 4 := by decide +kernel
theorem rt_274 : iv_rt 274 = some .int := by decide +kernel
def dm_274_16 : Nat → Int → Int → Int → Int → gx_S → dS → Option (Int × DS)
  | 0, _, _, _, _, _, _ => none
  | n + 1, x0, x1, x2, x3, s, δ =>
    if (-2147483648 ≤ x3 ∧ x3 ≤ 2147483647) then (
    if 10 ≤ x3 then (
      some ((10 + x1), s, δ)) else (
      if (-2147483648 ≤ x0 ∧ x0 ≤ 2147483647) then (
      if (-2147483648 ≤ x2 ∧ x2 ≤ 2147483647) then (
      if x0 ≤ x2 then (
        dm_274_16 n x0 x1 (10 * x2) (x3 + 1) s δ) else (
        some ((x3 + x1), s, δ))) else none) else none)) else none
theorem de_274_16 {z : iv_Z} {L : Nat} {xs : Nat → Int32} (hz : dZ z L xs) {d : Nat} (hd : 0 ≤ d) : ∀ (n : Nat) (x0 : Int) (x1 : Int) (x2 : Int) (x3 : Int) (s : gx_S) (δ : dS) (q : Int × DS), dm_274_16 n x0 x1 x2 x3 s δ = some q → dE z 274 d 16 [some (.int (Int32.ofInt x0)), some (.int (Int32.ofInt x1)), some (.int (Int32.ofInt x2)), some (.int (Int32.ofInt x3))] [] (s, δ) (some (.int (Int32.ofInt q.1))) q.2 := by
  intro n
  induction n with
  | zero =>
    intro x0 x1 x2 x3 s δ q h
    rw [dm_274_16] at h
    exact fx_no h
  | succ n ih =>
    intro x0 x1 x2 x3 s δ q h
    rw [dm_274_16] at h
    refine ds_iload_n (k := 3) (p := 17) (by decide +kernel) rfl rfl ?_
    refine ds_bipush (n := 10) (p := 19) (by decide +kernel) rfl dkb_10 ?_
    obtain ⟨z1, h⟩ := fx_gd h
    by_cases c2 : 10 ≤ x3
    · rw [if_pos c2] at h
      refine ds_icmp_ge_t (off := 23) (t := 42) (by decide +kernel) (by decide +kernel) ((gc_le rfl rfl (by decide) z1).mpr c2) ?_
      refine ds_bipush (n := 10) (p := 44) (by decide +kernel) rfl dkb_10 ?_
      refine ds_iload_n (k := 1) (p := 45) (by decide +kernel) rfl rfl ?_
      refine ds_iadd (p := 46) (c := Int32.ofInt (10 + x1)) (by decide +kernel) rfl (ga_add rfl rfl) ?_
      have h := Option.some.inj h
      subst h
      exact ds_iret (by decide +kernel) rt_274 rfl
    · rw [if_neg c2] at h
      refine ds_icmp_ge_f (off := 23) (t := 42) (p := 22) (by decide +kernel) (by decide +kernel) rfl (fun q => c2 ((gc_le rfl rfl (by decide) z1).mp q)) ?_
      refine ds_iload_n (k := 0) (p := 23) (by decide +kernel) rfl rfl ?_
      refine ds_iload_n (k := 2) (p := 24) (by decide +kernel) rfl rfl ?_
      obtain ⟨z3, h⟩ := fx_gd h
      obtain ⟨z4, h⟩ := fx_gd h
      by_cases c5 : x0 ≤ x2
      · rw [if_pos c5] at h
        refine ds_icmp_le_t (off := 7) (t := 31) (by decide +kernel) (by decide +kernel) ((gc_le rfl rfl z3 z4).mpr c5) ?_
        refine ds_bipush (n := 10) (p := 33) (by decide +kernel) rfl dkb_10 ?_
        refine ds_iload_n (k := 2) (p := 34) (by decide +kernel) rfl rfl ?_
        refine ds_imul (p := 35) (c := Int32.ofInt (10 * x2)) (by decide +kernel) rfl (ga_mul rfl rfl) ?_
        refine ds_istore_n (k := 2) (p := 36) (M := 4) (al' := [some (.int (Int32.ofInt x0)), some (.int (Int32.ofInt x1)), some (.int (Int32.ofInt (10 * x2))), some (.int (Int32.ofInt x3))]) (by decide +kernel) rfl mx_274 rfl rfl ?_
        refine ds_iinc (k := 3) (n := 1) (p := 39) (M := 4) (y := Int32.ofInt (x3 + 1)) (al' := [some (.int (Int32.ofInt x0)), some (.int (Int32.ofInt x1)), some (.int (Int32.ofInt (10 * x2))), some (.int (Int32.ofInt (x3 + 1)))]) (by decide +kernel) rfl rfl mx_274 rfl rfl (ga_add rfl rfl) rfl ?_
        refine ds_goto (off := -23) (p := 16) (by decide +kernel) (by decide +kernel) ?_
        exact ih _ _ _ _ _ _ _ h
      · rw [if_neg c5] at h
        refine ds_icmp_le_f (off := 7) (t := 31) (p := 27) (by decide +kernel) (by decide +kernel) rfl (fun q => c5 ((gc_le rfl rfl z3 z4).mp q)) ?_
        refine ds_iload_n (k := 3) (p := 28) (by decide +kernel) rfl rfl ?_
        refine ds_iload_n (k := 1) (p := 29) (by decide +kernel) rfl rfl ?_
        refine ds_iadd (p := 30) (c := Int32.ofInt (x3 + x1)) (by decide +kernel) rfl (ga_add rfl rfl) ?_
        have h := Option.some.inj h
        subst h
        exact ds_iret (by decide +kernel) rt_274 rfl
def dm_274_11 (x0 : Int) (x1 : Int) (s : gx_S) (δ : dS) : Option (Int × DS) :=
  dm_274_16 100000 x0 x1 (-10) 1 s δ
theorem de_274_11 {z : iv_Z} {L : Nat} {xs : Nat → Int32} (hz : dZ z L xs) {d : Nat} (hd : 0 ≤ d) (x0 : Int) (x1 : Int) (s : gx_S) (δ : dS) (q : Int × DS) (h : dm_274_11  x0 x1 s δ = some q) : dE z 274 d 11 [some (.int (Int32.ofInt x0)), some (.int (Int32.ofInt x1)), none, none] [] (s, δ) (some (.int (Int32.ofInt q.1))) q.2 := by
  unfold dm_274_11 at h
  refine ds_bipush (n := -10) (p := 13) (by decide +kernel) rfl dkb_m10 ?_
  refine ds_istore_n (k := 2) (p := 14) (M := 4) (al' := [some (.int (Int32.ofInt x0)), some (.int (Int32.ofInt x1)), some (.int (Int32.ofInt (-10))), none]) (by decide +kernel) rfl mx_274 rfl rfl ?_
  refine ds_iconst (n := 1) (p := 15) (by decide +kernel) rfl rfl ?_
  refine ds_istore_n (k := 3) (p := 16) (M := 4) (al' := [some (.int (Int32.ofInt x0)), some (.int (Int32.ofInt x1)), some (.int (Int32.ofInt (-10))), some (.int (Int32.ofInt 1))]) (by decide +kernel) rfl mx_274 rfl rfl ?_
  exact de_274_16 hz hd 100000 _ _ _ _ _ _ _ h
def dm_274 (x0 : Int) (s : gx_S) (δ : dS) : Option (Int × DS) :=
  if (-2147483648 ≤ x0 ∧ x0 ≤ 2147483647) then (
  if x0 < 0 then (
    dm_274_11 x0 1 s δ) else (
    dm_274_11 (-x0) 0 s δ)) else none
theorem de_274 {z : iv_Z} {L : Nat} {xs : Nat → Int32} (hz : dZ z L xs) {d : Nat} (hd : 0 ≤ d) {x0 : Int} {s : gx_S} {δ : dS} {q : Int × DS} (h : dm_274 x0 s δ = some q) : dE z 274 d 0 [some (.int (Int32.ofInt x0)), none, none, none] [] (s, δ) (some (.int (Int32.ofInt q.1))) q.2 := by
  unfold dm_274 at h
  refine ds_iconst (n := 1) (p := 1) (by decide +kernel) rfl rfl ?_
  refine ds_istore_n (k := 1) (p := 2) (M := 4) (al' := [some (.int (Int32.ofInt x0)), some (.int (Int32.ofInt 1)), none, none]) (by decide +kernel) rfl mx_274 rfl rfl ?_
  refine ds_iload_n (k := 0) (p := 3) (by decide +kernel) rfl rfl ?_
  obtain ⟨z1, h⟩ := fx_gd h
  by_cases c2 : x0 < 0
  · rw [if_pos c2] at h
    refine ds_if_lt_t (off := 8) (t := 11) (by decide +kernel) (by decide +kernel) ((gc_lt rfl rfl z1 (by decide)).mpr c2) ?_
    exact de_274_11 hz hd _ _ _ _ _ h
  · rw [if_neg c2] at h
    refine ds_if_lt_f (off := 8) (t := 11) (p := 6) (by decide +kernel) (by decide +kernel) rfl (fun q => c2 ((gc_lt rfl rfl z1 (by decide)).mp q)) ?_
    refine ds_iconst (n := 0) (p := 7) (by decide +kernel) rfl rfl ?_
    refine ds_istore_n (k := 1) (p := 8) (M := 4) (al' := [some (.int (Int32.ofInt x0)), some (.int (Int32.ofInt 0)), none, none]) (by decide +kernel) rfl mx_274 rfl rfl ?_
    refine ds_iload_n (k := 0) (p := 9) (by decide +kernel) rfl rfl ?_
    refine ds_ineg (p := 10) (c := Int32.ofInt (-x0)) (by decide +kernel) rfl (ga_neg rfl) ?_
    refine ds_istore_n (k := 0) (p := 11) (M := 4) (al' := [some (.int (Int32.ofInt (-x0))), some (.int (Int32.ofInt 0)), none, none]) (by decide +kernel) rfl mx_274 rfl rfl ?_
    exact de_274_11 hz hd _ _ _ _ _ h
/-! java/lang/Integer.getChars(II[B)I d -/
theorem mx_275 : iv_mx 275 = 7 := by decide +kernel
theorem rt_275 : iv_rt 275 = some .int := by decide +kernel
def dm_275_118 (x5 : Int) (s : gx_S) (δ : dS) : Option (Int × DS) :=
  some (x5, s, δ)
theorem de_275_118 {z : iv_Z} {L : Nat} {xs : Nat → Int32} (hz : dZ z L xs) {d : Nat} (hd : 0 ≤ d) (x5 : Int) (o0 : Option Value) (o1 : Option Value) (o2 : Option Value) (o3 : Option Value) (o4 : Option Value) (o6 : Option Value) (s : gx_S) (δ : dS) (q : Int × DS) (h : dm_275_118  x5 s δ = some q) : dE z 275 d 118 [o0, o1, o2, o3, o4, some (.int (Int32.ofInt x5)), o6] [] (s, δ) (some (.int (Int32.ofInt q.1))) q.2 := by
  unfold dm_275_118 at h
  refine ds_iload (k := 5) (p := 120) (by decide +kernel) rfl rfl ?_
  have h := Option.some.inj h
  subst h
  exact ds_iret (by decide +kernel) rt_275 rfl
def dm_275_104 (x2 : Nat) (x5 : Int) (x6 : Int) (s : gx_S) (δ : dS) : Option (Int × DS) :=
  if (-2147483648 ≤ x6 ∧ x6 ≤ 2147483647) then (
  if x6 = 0 then (
    dm_275_118 x5 s δ) else (
    if dA δ 3 x2 then (
    if dI δ x2 (x5 + (-1)) then (
    (some (δ.w x2 (((x5 + (-1))).toNat) (gn3 45))).bind fun t5 =>
    dm_275_118 (x5 + (-1)) s t5) else none) else none)) else none
theorem de_275_104 {z : iv_Z} {L : Nat} {xs : Nat → Int32} (hz : dZ z L xs) {d : Nat} (hd : 0 ≤ d) (x2 : Nat) (x5 : Int) (x6 : Int) (o0 : Option Value) (o1 : Option Value) (o3 : Option Value) (o4 : Option Value) (s : gx_S) (δ : dS) (q : Int × DS) (h : dm_275_104  x2 x5 x6 s δ = some q) : dE z 275 d 104 [o0, o1, some (.ref x2), o3, o4, some (.int (Int32.ofInt x5)), some (.int (Int32.ofInt x6))] [] (s, δ) (some (.int (Int32.ofInt q.1))) q.2 := by
  unfold dm_275_104 at h
  refine ds_iload (k := 6) (p := 106) (by decide +kernel) rfl rfl ?_
  obtain ⟨z1, h⟩ := fx_gd h
  by_cases c2 : x6 = 0
  · rw [if_pos c2] at h
    refine ds_if_eq_t (off := 12) (t := 118) (by decide +kernel) (by decide +kernel) ((gc_eq rfl rfl z1 (by decide)).mpr c2) ?_
    exact de_275_118 hz hd _ _ _ _ _ _ _ _ _ _ h
  · rw [if_neg c2] at h
    refine ds_if_eq_f (off := 12) (t := 118) (p := 109) (by decide +kernel) (by decide +kernel) rfl (fun q => c2 ((gc_eq rfl rfl z1 (by decide)).mp q)) ?_
    refine ds_aload_n (k := 2) (p := 110) (by decide +kernel) rfl rfl ?_
    refine ds_iinc (k := 5) (n := -1) (p := 113) (M := 7) (y := Int32.ofInt (x5 + (-1))) (al' := [o0, o1, some (.ref x2), o3, (fx_kl o4), some (.int (Int32.ofInt (x5 + (-1)))), some (.int (Int32.ofInt x6))]) (by decide +kernel) rfl rfl mx_275 rfl rfl (ga_add rfl rfl) rfl ?_
    refine ds_iload (k := 5) (p := 115) (by decide +kernel) rfl rfl ?_
    refine ds_bipush (n := 45) (p := 117) (by decide +kernel) rfl dkb_45 ?_
    obtain ⟨z3, h⟩ := fx_gd h
    obtain ⟨z4, h⟩ := fx_gd h
    obtain ⟨t5, w6, h⟩ := fx_bd h
    refine ds_bastore3 (p := 118) (by decide +kernel) rfl z3 z4 ?_
    rw [Option.some.inj w6]
    exact de_275_118 hz hd _ _ _ _ _ _ _ _ _ _ h
def dm_275_22 : Nat → Int → Nat → Int → Int → gx_S → dS → Option (Int × DS)
  | 0, _, _, _, _, _, _ => none
  | n + 1, x0, x2, x5, x6, s, δ =>
    if (-2147483648 ≤ x0 ∧ x0 ≤ 2147483647) then (
    if (-100) < x0 then (
      if 0 ≤ (-x0) ∧ (-x0) < (100 : Int) then (
      if dA δ 3 x2 then (
      if dI δ x2 (x5 + (-1)) then (
      (some (δ.w x2 (((x5 + (-1))).toNat) (gn3 ((dz_1 (((-x0)).toNat)).toInt)))).bind fun t6 =>
      if (-9) ≤ x0 then (
        dm_275_104 x2 (x5 + (-1)) x6 s t6) else (
        if dA t6 3 x2 then (
        if dI t6 x2 ((x5 + (-1)) + (-1)) then (
        (some (t6.w x2 ((((x5 + (-1)) + (-1))).toNat) (gn3 ((dz_2 (((-x0)).toNat)).toInt)))).bind fun t11 =>
        dm_275_104 x2 ((x5 + (-1)) + (-1)) x6 s t11) else none) else none)) else none) else none) else none) else (
      if -2147483648 < x0 ∧ x0 ≤ 0 then (
      if 0 ≤ (((-((-x0) / 100)) * 100) - x0) ∧ (((-((-x0) / 100)) * 100) - x0) < (100 : Int) then (
      if dA δ 3 x2 then (
      if dI δ x2 (x5 + (-1)) then (
      (some (δ.w x2 (((x5 + (-1))).toNat) (gn3 ((dz_1 (((((-((-x0) / 100)) * 100) - x0)).toNat)).toInt)))).bind fun t17 =>
      if dA t17 3 x2 then (
      if dI t17 x2 ((x5 + (-1)) + (-1)) then (
      (some (t17.w x2 ((((x5 + (-1)) + (-1))).toNat) (gn3 ((dz_2 (((((-((-x0) / 100)) * 100) - x0)).toNat)).toInt)))).bind fun t21 =>
      dm_275_22 n (-((-x0) / 100)) x2 ((x5 + (-1)) + (-1)) x6 s t21) else none) else none) else none) else none) else none) else none)) else none
theorem de_275_22 {z : iv_Z} {L : Nat} {xs : Nat → Int32} (hz : dZ z L xs) {d : Nat} (hd : 0 ≤ d) : ∀ (n : Nat) (x0 : Int) (x2 : Nat) (x5 : Int) (x6 : Int) (o1 : Option Value) (o3 : Option Value) (o4 : Option Value) (s : gx_S) (δ : dS) (q : Int × DS), dm_275_22 n x0 x2 x5 x6 s δ = some q → dE z 275 d 22 [some (.int (Int32.ofInt x0)), o1, some (.ref x2), o3, o4, some (.int (Int32.ofInt x5)), some (.int (Int32.ofInt x6))] [] (s, δ) (some (.int (Int32.ofInt q.1))) q.2 := by
  intro n
  induction n with
  | zero =>
    intro x0 x2 x5 x6 o1 o3 o4 s δ q h
    rw [dm_275_22] at h
    exact fx_no h
  | succ n ih =>
    intro x0 x2 x5 x6 o1 o3 o4 s δ q h
    rw [dm_275_22] at h
    refine ds_iload_n (k := 0) (p := 23) (by decide +kernel) rfl rfl ?_
    refine ds_bipush (n := -100) (p := 25) (by decide +kernel) rfl dkb_m100 ?_
    obtain ⟨z1, h⟩ := fx_gd h
    by_cases c2 : (-100) < x0
    · rw [if_pos c2] at h
      refine ds_icmp_gt_t (off := 47) (t := 72) (by decide +kernel) (by decide +kernel) ((gc_lt rfl rfl (by decide) z1).mpr c2) ?_
      refine ds_aload_n (k := 2) (p := 73) (by decide +kernel) rfl rfl ?_
      refine ds_iinc (k := 5) (n := -1) (p := 76) (M := 7) (y := Int32.ofInt (x5 + (-1))) (al' := [some (.int (Int32.ofInt x0)), o1, some (.ref x2), o3, (fx_kl o4), some (.int (Int32.ofInt (x5 + (-1)))), some (.int (Int32.ofInt x6))]) (by decide +kernel) rfl rfl mx_275 rfl rfl (ga_add rfl rfl) rfl ?_
      refine ds_iload (k := 5) (p := 78) (by decide +kernel) rfl rfl ?_
      refine ds_getsr (idx := 83) (k := 1) (n := 1) (p := 81) (by decide +kernel) rfl (by decide +kernel) rfl rfl ?_
      refine ds_iload_n (k := 0) (p := 82) (by decide +kernel) rfl rfl ?_
      refine ds_ineg (p := 83) (c := Int32.ofInt (-x0)) (by decide +kernel) rfl (ga_neg rfl) ?_
      obtain ⟨z3, h⟩ := fx_gd h
      refine ds_baload_a (p := 84) (by decide +kernel) rfl (dz_a1 hz) (dz_n1 hz) z3 ?_
      obtain ⟨z4, h⟩ := fx_gd h
      obtain ⟨z5, h⟩ := fx_gd h
      obtain ⟨t6, w7, h⟩ := fx_bd h
      refine ds_bastore3 (p := 85) (by decide +kernel) rfl z4 z5 ?_
      rw [Option.some.inj w7]
      refine ds_iload_n (k := 0) (p := 86) (by decide +kernel) rfl rfl ?_
      refine ds_bipush (n := -9) (p := 88) (by decide +kernel) rfl dkb_m9 ?_
      by_cases c8 : (-9) ≤ x0
      · rw [if_pos c8] at h
        refine ds_icmp_ge_t (off := 16) (t := 104) (by decide +kernel) (by decide +kernel) ((gc_le rfl rfl (by decide) z1).mpr c8) ?_
        exact de_275_104 hz hd _ _ _ _ _ _ _ _ _ _ h
      · rw [if_neg c8] at h
        refine ds_icmp_ge_f (off := 16) (t := 104) (p := 91) (by decide +kernel) (by decide +kernel) rfl (fun q => c8 ((gc_le rfl rfl (by decide) z1).mp q)) ?_
        refine ds_aload_n (k := 2) (p := 92) (by decide +kernel) rfl rfl ?_
        refine ds_iinc (k := 5) (n := -1) (p := 95) (M := 7) (y := Int32.ofInt ((x5 + (-1)) + (-1))) (al' := [some (.int (Int32.ofInt x0)), o1, some (.ref x2), o3, (fx_kl (fx_kl o4)), some (.int (Int32.ofInt ((x5 + (-1)) + (-1)))), some (.int (Int32.ofInt x6))]) (by decide +kernel) rfl rfl mx_275 rfl rfl (ga_add rfl rfl) rfl ?_
        refine ds_iload (k := 5) (p := 97) (by decide +kernel) rfl rfl ?_
        refine ds_getsr (idx := 87) (k := 2) (n := 2) (p := 100) (by decide +kernel) rfl (by decide +kernel) rfl rfl ?_
        refine ds_iload_n (k := 0) (p := 101) (by decide +kernel) rfl rfl ?_
        refine ds_ineg (p := 102) (c := Int32.ofInt (-x0)) (by decide +kernel) rfl (ga_neg rfl) ?_
        refine ds_baload_a (p := 103) (by decide +kernel) rfl (dz_a2 hz) (dz_n2 hz) z3 ?_
        obtain ⟨z9, h⟩ := fx_gd h
        obtain ⟨z10, h⟩ := fx_gd h
        obtain ⟨t11, w12, h⟩ := fx_bd h
        refine ds_bastore3 (p := 104) (by decide +kernel) rfl z9 z10 ?_
        rw [Option.some.inj w12]
        exact de_275_104 hz hd _ _ _ _ _ _ _ _ _ _ h
    · rw [if_neg c2] at h
      refine ds_icmp_gt_f (off := 47) (t := 72) (p := 28) (by decide +kernel) (by decide +kernel) rfl (fun q => c2 ((gc_lt rfl rfl (by decide) z1).mp q)) ?_
      refine ds_iload_n (k := 0) (p := 29) (by decide +kernel) rfl rfl ?_
      refine ds_bipush (n := 100) (p := 31) (by decide +kernel) rfl dkb_100 ?_
      obtain ⟨z13, h⟩ := fx_gd h
      refine ds_idiv (p := 32) (c := Int32.ofInt (-((-x0) / 100))) (by decide +kernel) rfl (by decide) (da_divn rfl rfl z13 (by decide)) ?_
      refine ds_istore_n (k := 3) (p := 33) (M := 7) (al' := [some (.int (Int32.ofInt x0)), o1, some (.ref x2), some (.int (Int32.ofInt (-((-x0) / 100)))), o4, some (.int (Int32.ofInt x5)), some (.int (Int32.ofInt x6))]) (by decide +kernel) rfl mx_275 rfl rfl ?_
      refine ds_iload_n (k := 3) (p := 34) (by decide +kernel) rfl rfl ?_
      refine ds_bipush (n := 100) (p := 36) (by decide +kernel) rfl dkb_100 ?_
      refine ds_imul (p := 37) (c := Int32.ofInt ((-((-x0) / 100)) * 100)) (by decide +kernel) rfl (ga_mul rfl rfl) ?_
      refine ds_iload_n (k := 0) (p := 38) (by decide +kernel) rfl rfl ?_
      refine ds_isub (p := 39) (c := Int32.ofInt (((-((-x0) / 100)) * 100) - x0)) (by decide +kernel) rfl (ga_sub rfl rfl) ?_
      refine ds_istore (k := 4) (p := 41) (M := 7) (al' := [some (.int (Int32.ofInt x0)), o1, some (.ref x2), some (.int (Int32.ofInt (-((-x0) / 100)))), some (.int (Int32.ofInt (((-((-x0) / 100)) * 100) - x0))), some (.int (Int32.ofInt x5)), some (.int (Int32.ofInt x6))]) (by decide +kernel) rfl mx_275 rfl rfl ?_
      refine ds_iload_n (k := 3) (p := 42) (by decide +kernel) rfl rfl ?_
      refine ds_istore_n (k := 0) (p := 43) (M := 7) (al' := [some (.int (Int32.ofInt (-((-x0) / 100)))), o1, some (.ref x2), some (.int (Int32.ofInt (-((-x0) / 100)))), some (.int (Int32.ofInt (((-((-x0) / 100)) * 100) - x0))), some (.int (Int32.ofInt x5)), some (.int (Int32.ofInt x6))]) (by decide +kernel) rfl mx_275 rfl rfl ?_
      refine ds_aload_n (k := 2) (p := 44) (by decide +kernel) rfl rfl ?_
      refine ds_iinc (k := 5) (n := -1) (p := 47) (M := 7) (y := Int32.ofInt (x5 + (-1))) (al' := [some (.int (Int32.ofInt (-((-x0) / 100)))), o1, some (.ref x2), some (.int (Int32.ofInt (-((-x0) / 100)))), some (.int (Int32.ofInt (((-((-x0) / 100)) * 100) - x0))), some (.int (Int32.ofInt (x5 + (-1)))), some (.int (Int32.ofInt x6))]) (by decide +kernel) rfl rfl mx_275 rfl rfl (ga_add rfl rfl) rfl ?_
      refine ds_iload (k := 5) (p := 49) (by decide +kernel) rfl rfl ?_
      refine ds_getsr (idx := 83) (k := 1) (n := 1) (p := 52) (by decide +kernel) rfl (by decide +kernel) rfl rfl ?_
      refine ds_iload (k := 4) (p := 54) (by decide +kernel) rfl rfl ?_
      obtain ⟨z14, h⟩ := fx_gd h
      refine ds_baload_a (p := 55) (by decide +kernel) rfl (dz_a1 hz) (dz_n1 hz) z14 ?_
      obtain ⟨z15, h⟩ := fx_gd h
      obtain ⟨z16, h⟩ := fx_gd h
      obtain ⟨t17, w18, h⟩ := fx_bd h
      refine ds_bastore3 (p := 56) (by decide +kernel) rfl z15 z16 ?_
      rw [Option.some.inj w18]
      refine ds_aload_n (k := 2) (p := 57) (by decide +kernel) rfl rfl ?_
      refine ds_iinc (k := 5) (n := -1) (p := 60) (M := 7) (y := Int32.ofInt ((x5 + (-1)) + (-1))) (al' := [some (.int (Int32.ofInt (-((-x0) / 100)))), o1, some (.ref x2), some (.int (Int32.ofInt (-((-x0) / 100)))), some (.int (Int32.ofInt (((-((-x0) / 100)) * 100) - x0))), some (.int (Int32.ofInt ((x5 + (-1)) + (-1)))), some (.int (Int32.ofInt x6))]) (by decide +kernel) rfl rfl mx_275 rfl rfl (ga_add rfl rfl) rfl ?_
      refine ds_iload (k := 5) (p := 62) (by decide +kernel) rfl rfl ?_
      refine ds_getsr (idx := 87) (k := 2) (n := 2) (p := 65) (by decide +kernel) rfl (by decide +kernel) rfl rfl ?_
      refine ds_iload (k := 4) (p := 67) (by decide +kernel) rfl rfl ?_
      refine ds_baload_a (p := 68) (by decide +kernel) rfl (dz_a2 hz) (dz_n2 hz) z14 ?_
      obtain ⟨z19, h⟩ := fx_gd h
      obtain ⟨z20, h⟩ := fx_gd h
      obtain ⟨t21, w22, h⟩ := fx_bd h
      refine ds_bastore3 (p := 69) (by decide +kernel) rfl z19 z20 ?_
      rw [Option.some.inj w22]
      refine ds_goto (off := -47) (p := 22) (by decide +kernel) (by decide +kernel) ?_
      exact ih _ _ _ _ _ _ _ _ _ _ h
def dm_275_12 (x0 : Int) (x2 : Nat) (x5 : Int) (s0 : Int) (s : gx_S) (δ : dS) : Option (Int × DS) :=
  if (-2147483648 ≤ s0 ∧ s0 ≤ 2147483647) then (
  if ¬ s0 = 0 then (
    dm_275_22 100000 x0 x2 x5 s0 s δ) else (
    dm_275_22 100000 (-x0) x2 x5 s0 s δ)) else none
theorem de_275_12 {z : iv_Z} {L : Nat} {xs : Nat → Int32} (hz : dZ z L xs) {d : Nat} (hd : 0 ≤ d) (x0 : Int) (x2 : Nat) (x5 : Int) (s0 : Int) (o1 : Option Value) (s : gx_S) (δ : dS) (q : Int × DS) (h : dm_275_12  x0 x2 x5 s0 s δ = some q) : dE z 275 d 12 [some (.int (Int32.ofInt x0)), o1, some (.ref x2), none, none, some (.int (Int32.ofInt x5)), none] [.int (Int32.ofInt s0)] (s, δ) (some (.int (Int32.ofInt q.1))) q.2 := by
  unfold dm_275_12 at h
  refine ds_istore (k := 6) (p := 14) (M := 7) (al' := [some (.int (Int32.ofInt x0)), o1, some (.ref x2), none, none, some (.int (Int32.ofInt x5)), some (.int (Int32.ofInt s0))]) (by decide +kernel) rfl mx_275 rfl rfl ?_
  refine ds_iload (k := 6) (p := 16) (by decide +kernel) rfl rfl ?_
  obtain ⟨z1, h⟩ := fx_gd h
  by_cases c2 : ¬ s0 = 0
  · rw [if_pos c2] at h
    refine ds_if_ne_t (off := 6) (t := 22) (by decide +kernel) (by decide +kernel) ((gc_ne rfl rfl z1 (by decide)).mpr c2) ?_
    exact de_275_22 hz hd 100000 _ _ _ _ _ _ _ _ _ _ h
  · rw [if_neg c2] at h
    refine ds_if_ne_f (off := 6) (t := 22) (p := 19) (by decide +kernel) (by decide +kernel) rfl (fun q => c2 ((gc_ne rfl rfl z1 (by decide)).mp q)) ?_
    refine ds_iload_n (k := 0) (p := 20) (by decide +kernel) rfl rfl ?_
    refine ds_ineg (p := 21) (c := Int32.ofInt (-x0)) (by decide +kernel) rfl (ga_neg rfl) ?_
    refine ds_istore_n (k := 0) (p := 22) (M := 7) (al' := [some (.int (Int32.ofInt (-x0))), o1, some (.ref x2), none, none, some (.int (Int32.ofInt x5)), some (.int (Int32.ofInt s0))]) (by decide +kernel) rfl mx_275 rfl rfl ?_
    exact de_275_22 hz hd 100000 _ _ _ _ _ _ _ _ _ _ h
def dm_275 (x0 : Int) (x1 : Int) (x2 : Nat) (s : gx_S) (δ : dS) : Option (Int × DS) :=
  if (-2147483648 ≤ x0 ∧ x0 ≤ 2147483647) then (
  if 0 ≤ x0 then (
    dm_275_12 x0 x2 x1 0 s δ) else (
    dm_275_12 x0 x2 x1 1 s δ)) else none
theorem de_275 {z : iv_Z} {L : Nat} {xs : Nat → Int32} (hz : dZ z L xs) {d : Nat} (hd : 0 ≤ d) {x0 : Int} {x1 : Int} {x2 : Nat} {s : gx_S} {δ : dS} {q : Int × DS} (h : dm_275 x0 x1 x2 s δ = some q) : dE z 275 d 0 [some (.int (Int32.ofInt x0)), some (.int (Int32.ofInt x1)), some (.ref x2), none, none, none, none] [] (s, δ) (some (.int (Int32.ofInt q.1))) q.2 := by
  unfold dm_275 at h
  refine ds_iload_n (k := 1) (p := 1) (by decide +kernel) rfl rfl ?_
  refine ds_istore (k := 5) (p := 3) (M := 7) (al' := [some (.int (Int32.ofInt x0)), some (.int (Int32.ofInt x1)), some (.ref x2), none, none, some (.int (Int32.ofInt x1)), none]) (by decide +kernel) rfl mx_275 rfl rfl ?_
  refine ds_iload_n (k := 0) (p := 4) (by decide +kernel) rfl rfl ?_
  obtain ⟨z1, h⟩ := fx_gd h
  by_cases c2 : 0 ≤ x0
  · rw [if_pos c2] at h
    refine ds_if_ge_t (off := 7) (t := 11) (by decide +kernel) (by decide +kernel) ((gc_le rfl rfl (by decide) z1).mpr c2) ?_
    refine ds_iconst (n := 0) (p := 12) (by decide +kernel) rfl rfl ?_
    exact de_275_12 hz hd _ _ _ _ _ _ _ _ h
  · rw [if_neg c2] at h
    refine ds_if_ge_f (off := 7) (t := 11) (p := 7) (by decide +kernel) (by decide +kernel) rfl (fun q => c2 ((gc_le rfl rfl (by decide) z1).mp q)) ?_
    refine ds_iconst (n := 1) (p := 8) (by decide +kernel) rfl rfl ?_
    refine ds_goto (off := 4) (p := 12) (by decide +kernel) (by decide +kernel) ?_
    exact de_275_12 hz hd _ _ _ _ _ _ _ _ h
/-! java/lang/AbstractStringBuilder.append(I)Ljava/lang/AbstractStringBuilder; d -/
theorem mx_265 : iv_mx 265 = 4 := by decide +kernel
def dm_265_48 (x0 : Nat) (x3 : Int) (s : gx_S) (δ : dS) : Option (Nat × DS) :=
  if dO δ x0 11 then (
  (some (δ.w x0 3 x3)).bind fun t2 =>
  some (x0, s, t2)) else none
theorem de_265_48 {z : iv_Z} {L : Nat} {xs : Nat → Int32} (hz : dZ z L xs) {d : Nat} (hd : 3 ≤ d) (x0 : Nat) (x3 : Int) (o1 : Option Value) (o2 : Option Value) (s : gx_S) (δ : dS) (q : Nat × DS) (h : dm_265_48  x0 x3 s δ = some q) : dE z 265 d 48 [some (.ref x0), o1, o2, some (.int (Int32.ofInt x3))] [] (s, δ) (some (.ref q.1)) q.2 := by
  unfold dm_265_48 at h
  refine ds_aload_n (k := 0) (p := 49) (by decide +kernel) rfl rfl ?_
  refine ds_iload_n (k := 3) (p := 50) (by decide +kernel) rfl rfl ?_
  obtain ⟨z1, h⟩ := fx_gd h
  obtain ⟨t2, w3, h⟩ := fx_bd h
  refine ds_pfi (idx := 79) (ci := 11) (j := 3) (p := 53) (by decide +kernel) rfl (by decide +kernel) (by decide +kernel) z1 (fx_oki _ (by decide +kernel)) ?_
  rw [Option.some.inj w3]
  refine ds_aload_n (k := 0) (p := 54) (by decide +kernel) rfl rfl ?_
  have h := Option.some.inj h
  subst h
  exact ds_aret (by decide +kernel) (by decide +kernel)
def dm_265 (x0 : Nat) (x1 : Int) (s : gx_S) (δ : dS) : Option (Nat × DS) :=
  if dO δ x0 11 then (
  (dm_274 x1 s δ).bind fun q2 =>
  if dO q2.2.2 x0 11 then (
  (dm_268 x0 ((δ.I x0 3) + q2.1) q2.2.1 q2.2.2).bind fun q4 =>
  if dO q4.2 x0 11 then (
  (dm_270 x0 q4.1 q4.2).bind fun q7 =>
  if (-2147483648 ≤ q7.1 ∧ q7.1 ≤ 2147483647) then (
  if q7.1 = 0 then (
    none) else (
    if dO q7.2.2 x0 11 then (
    (q7.2.2.P x0 0).bind fun v16 =>
    (dm_275 x1 ((δ.I x0 3) + q2.1) v16 q7.2.1 q7.2.2).bind fun q18 =>
    dm_265_48 x0 ((δ.I x0 3) + q2.1) q18.2.1 q18.2.2) else none)) else none) else none) else none) else none
theorem de_265 {z : iv_Z} {L : Nat} {xs : Nat → Int32} (hz : dZ z L xs) {d : Nat} (hd : 3 ≤ d) {x0 : Nat} {x1 : Int} {s : gx_S} {δ : dS} {q : Nat × DS} (h : dm_265 x0 x1 s δ = some q) : dE z 265 d 0 [some (.ref x0), some (.int (Int32.ofInt x1)), none, none] [] (s, δ) (some (.ref q.1)) q.2 := by
  unfold dm_265 at h
  refine ds_aload_n (k := 0) (p := 1) (by decide +kernel) rfl rfl ?_
  obtain ⟨z1, h⟩ := fx_gd h
  refine ds_gfi (idx := 79) (ci := 11) (j := 3) (p := 4) (by decide +kernel) rfl (by decide +kernel) z1 ?_
  refine ds_istore_n (k := 2) (p := 5) (M := 4) (al' := [some (.ref x0), some (.int (Int32.ofInt x1)), some (.int (Int32.ofInt (δ.I x0 3))), none]) (by decide +kernel) rfl mx_265 rfl rfl ?_
  refine ds_iload_n (k := 2) (p := 6) (by decide +kernel) rfl rfl ?_
  refine ds_iload_n (k := 1) (p := 7) (by decide +kernel) rfl rfl ?_
  obtain ⟨q2, w3, h⟩ := fx_bd h
  refine ds_callS (idx := 245) (mj := 274) (na := 1) (mx := 4) (p := 10) (args := [.int (Int32.ofInt x1)]) (rest := [.int (Int32.ofInt (δ.I x0 3))]) (al2 := [some (.int (Int32.ofInt x1)), none, none, none]) (S2 := q2.2) (by decide +kernel) rfl (by decide +kernel) rfl rfl rfl rfl rfl rfl (by omega) (fun d' hd' => de_274 hz (by omega) w3) rfl ?_
  refine ds_iadd (p := 11) (c := Int32.ofInt ((δ.I x0 3) + q2.1)) (by decide +kernel) rfl (ga_add rfl rfl) ?_
  refine ds_istore_n (k := 3) (p := 12) (M := 4) (al' := [some (.ref x0), some (.int (Int32.ofInt x1)), some (.int (Int32.ofInt (δ.I x0 3))), some (.int (Int32.ofInt ((δ.I x0 3) + q2.1)))]) (by decide +kernel) rfl mx_265 rfl rfl ?_
  refine ds_aload_n (k := 0) (p := 13) (by decide +kernel) rfl rfl ?_
  refine ds_iload_n (k := 3) (p := 14) (by decide +kernel) rfl rfl ?_
  obtain ⟨z6, h⟩ := fx_gd h
  obtain ⟨q4, w5, h⟩ := fx_bd h
  refine ds_callV (idx := 100) (mj := 268) (ci := 11) (na := 1) (mx := 3) (p := 17) (args := [.ref x0, .int (Int32.ofInt ((δ.I x0 3) + q2.1))]) (rest := []) (al2 := [some (.ref x0), some (.int (Int32.ofInt ((δ.I x0 3) + q2.1))), none]) (S2 := q4) (by decide +kernel) rfl (by decide +kernel) (Or.inl ⟨_, rfl, Or.inl z6⟩) rfl rfl rfl rfl rfl rfl (by omega) (fun d' hd' => de_268 hz (by omega) w5) rfl ?_
  refine ds_aload_n (k := 0) (p := 18) (by decide +kernel) rfl rfl ?_
  obtain ⟨z9, h⟩ := fx_gd h
  obtain ⟨q7, w8, h⟩ := fx_bd h
  refine ds_callV (idx := 83) (mj := 270) (ci := 11) (na := 0) (mx := 1) (p := 21) (args := [.ref x0]) (rest := []) (al2 := [some (.ref x0)]) (S2 := q7.2) (by decide +kernel) rfl (by decide +kernel) (Or.inl ⟨_, rfl, Or.inl z9⟩) rfl rfl rfl rfl rfl rfl (by omega) (fun d' hd' => de_270 hz (by omega) w8) rfl ?_
  obtain ⟨z10, h⟩ := fx_gd h
  by_cases c11 : q7.1 = 0
  · rw [if_pos c11] at h
    refine ds_if_eq_t (off := 16) (t := 37) (by decide +kernel) (by decide +kernel) ((gc_eq rfl rfl z10 (by decide)).mpr c11) ?_
    exact fx_no h
  · rw [if_neg c11] at h
    refine ds_if_eq_f (off := 16) (t := 37) (p := 24) (by decide +kernel) (by decide +kernel) rfl (fun q => c11 ((gc_eq rfl rfl z10 (by decide)).mp q)) ?_
    refine ds_iload_n (k := 1) (p := 25) (by decide +kernel) rfl rfl ?_
    refine ds_iload_n (k := 3) (p := 26) (by decide +kernel) rfl rfl ?_
    refine ds_aload_n (k := 0) (p := 27) (by decide +kernel) rfl rfl ?_
    obtain ⟨z15, h⟩ := fx_gd h
    obtain ⟨v16, w17, h⟩ := fx_bd h
    refine ds_gfr (idx := 15) (ci := 11) (j := 0) (p := 30) (by decide +kernel) rfl (by decide +kernel) z15 w17 ?_
    obtain ⟨q18, w19, h⟩ := fx_bd h
    refine ds_callS (idx := 248) (mj := 275) (na := 3) (mx := 7) (p := 33) (args := [.int (Int32.ofInt x1), .int (Int32.ofInt ((δ.I x0 3) + q2.1)), .ref v16]) (rest := []) (al2 := [some (.int (Int32.ofInt x1)), some (.int (Int32.ofInt ((δ.I x0 3) + q2.1))), some (.ref v16), none, none, none, none]) (S2 := q18.2) (by decide +kernel) rfl (by decide +kernel) rfl rfl rfl rfl rfl rfl (by omega) (fun d' hd' => de_275 hz (by omega) w19) rfl ?_
    refine ds_pop (p := 34) (by decide +kernel) rfl rfl ?_
    refine ds_goto (off := 14) (p := 48) (by decide +kernel) (by decide +kernel) ?_
    exact de_265_48 hz hd _ _ _ _ _ _ _ h
/-! java/lang/StringBuilder.append(I)Ljava/lang/StringBuilder; d -/
theorem mx_259 : iv_mx 259 = 2 := by decide +kernel
def dm_259 (x0 : Nat) (x1 : Int) (s : gx_S) (δ : dS) : Option (Nat × DS) :=
  if dO δ x0 11 then (
  (dm_265 x0 x1 s δ).bind fun q1 =>
  some (x0, q1.2.1, q1.2.2)) else none
theorem de_259 {z : iv_Z} {L : Nat} {xs : Nat → Int32} (hz : dZ z L xs) {d : Nat} (hd : 4 ≤ d) {x0 : Nat} {x1 : Int} {s : gx_S} {δ : dS} {q : Nat × DS} (h : dm_259 x0 x1 s δ = some q) : dE z 259 d 0 [some (.ref x0), some (.int (Int32.ofInt x1))] [] (s, δ) (some (.ref q.1)) q.2 := by
  unfold dm_259 at h
  refine ds_aload_n (k := 0) (p := 1) (by decide +kernel) rfl rfl ?_
  refine ds_iload_n (k := 1) (p := 2) (by decide +kernel) rfl rfl ?_
  obtain ⟨z3, h⟩ := fx_gd h
  obtain ⟨q1, w2, h⟩ := fx_bd h
  refine ds_callP (idx := 53) (mj := 265) (ci := 11) (na := 1) (mx := 4) (p := 5) (args := [.ref x0, .int (Int32.ofInt x1)]) (rest := []) (al2 := [some (.ref x0), some (.int (Int32.ofInt x1)), none, none]) (S2 := q1.2) (by decide +kernel) rfl (by decide +kernel) (Or.inl ⟨_, rfl, Or.inl z3⟩) rfl rfl rfl rfl rfl rfl (by omega) (fun d' hd' => de_265 hz (by omega) w2) rfl ?_
  refine ds_pop (p := 6) (by decide +kernel) rfl rfl ?_
  refine ds_aload_n (k := 0) (p := 7) (by decide +kernel) rfl rfl ?_
  have h := Option.some.inj h
  subst h
  exact ds_aret (by decide +kernel) (by decide +kernel)
/-! ZoneSharesLaw.all(LZoneShares;)Ljava/lang/String; c -/
theorem mx_252 : iv_mx 252 = 4 := by decide +kernel
def dm_252_171 (L : Nat) (xs : Nat → Int32) (k_138 : Nat → Int → gx_S → dS → Option (Nat × DS)) (x1 : Nat) (x2 : Int) (s : gx_S) (δ : dS) : Option (Nat × DS) :=
  k_138 x1 (x2 + 1) s δ
theorem de_252_171 {z : iv_Z} {L : Nat} {xs : Nat → Int32} (hz : dZ z L xs) {d : Nat} (hd : 7 ≤ d) {k_138 : Nat → Int → gx_S → dS → Option (Nat × DS)} (hk_138 : ∀ (x1 : Nat) (x2 : Int) (o3 : Option Value) (s : gx_S) (δ : dS) (q : Nat × DS), k_138 x1 x2 s δ = some q → dE z 252 d 138 [some (.ref 0), some (.ref x1), some (.int (Int32.ofInt x2)), o3] [] (s, δ) (some (.ref q.1)) q.2) (x1 : Nat) (x2 : Int) (o3 : Option Value) (s : gx_S) (δ : dS) (q : Nat × DS) (h : dm_252_171 L xs k_138  x1 x2 s δ = some q) : dE z 252 d 171 [some (.ref 0), some (.ref x1), some (.int (Int32.ofInt x2)), o3] [] (s, δ) (some (.ref q.1)) q.2 := by
  unfold dm_252_171 at h
  refine ds_iinc (k := 2) (n := 1) (p := 174) (M := 4) (y := Int32.ofInt (x2 + 1)) (al' := [some (.ref 0), some (.ref x1), some (.int (Int32.ofInt (x2 + 1))), o3]) (by decide +kernel) rfl rfl mx_252 rfl rfl (ga_add rfl rfl) rfl ?_
  refine ds_goto (off := -36) (p := 138) (by decide +kernel) (by decide +kernel) ?_
  exact hk_138 _ _ _ _ _ _ h
def dm_252_138 (L : Nat) (xs : Nat → Int32) : Nat → Nat → Int → gx_S → dS → Option (Nat × DS)
  | 0, _, _, _, _ => none
  | n + 1, x1, x2, s, δ =>
    if (-2147483648 ≤ x2 ∧ x2 ≤ 2147483647) then (
    if 12 ≤ x2 then (
      if dO δ x1 11 then (
      (dm_262 x1 s δ).bind fun q3 =>
      some (q3.1, q3.2.1, q3.2.2)) else none) else (
      if x2 = 8 then (
        dm_252_171 L xs (dm_252_138 L xs n) x1 x2 s δ) else (
        if x2 = 9 then (
          dm_252_171 L xs (dm_252_138 L xs n) x1 x2 s δ) else (
          if dO δ x1 11 then (
          (dm_258 x1 32 s δ).bind fun q8 =>
          (gm_111 x2 q8.2.1).bind fun q11 =>
          if dO q8.2.2 q8.1 11 then (
          (dm_259 q8.1 q11.1 q11.2 q8.2.2).bind fun q13 =>
          dm_252_171 L xs (dm_252_138 L xs n) x1 x2 q13.2.1 q13.2.2) else none) else none)))) else none
theorem de_252_138 {z : iv_Z} {L : Nat} {xs : Nat → Int32} (hz : dZ z L xs) {d : Nat} (hd : 7 ≤ d) : ∀ (n : Nat) (x1 : Nat) (x2 : Int) (o3 : Option Value) (s : gx_S) (δ : dS) (q : Nat × DS), dm_252_138 L xs n x1 x2 s δ = some q → dE z 252 d 138 [some (.ref 0), some (.ref x1), some (.int (Int32.ofInt x2)), o3] [] (s, δ) (some (.ref q.1)) q.2 := by
  intro n
  induction n with
  | zero =>
    intro x1 x2 o3 s δ q h
    rw [dm_252_138] at h
    exact fx_no h
  | succ n ih =>
    intro x1 x2 o3 s δ q h
    rw [dm_252_138] at h
    refine ds_iload_n (k := 2) (p := 139) (by decide +kernel) rfl rfl ?_
    refine ds_bipush (n := 12) (p := 141) (by decide +kernel) rfl dkb_12 ?_
    obtain ⟨z1, h⟩ := fx_gd h
    by_cases c2 : 12 ≤ x2
    · rw [if_pos c2] at h
      refine ds_icmp_ge_t (off := 36) (t := 177) (by decide +kernel) (by decide +kernel) ((gc_le rfl rfl (by decide) z1).mpr c2) ?_
      refine ds_aload_n (k := 1) (p := 178) (by decide +kernel) rfl rfl ?_
      obtain ⟨z5, h⟩ := fx_gd h
      obtain ⟨q3, w4, h⟩ := fx_bd h
      refine ds_callV (idx := 35) (mj := 262) (ci := 11) (na := 0) (mx := 1) (p := 181) (args := [.ref x1]) (rest := []) (al2 := [some (.ref x1)]) (S2 := q3.2) (by decide +kernel) rfl (by decide +kernel) (Or.inl ⟨_, rfl, Or.inl z5⟩) rfl rfl rfl rfl rfl rfl (by omega) (fun d' hd' => de_262 hz (by omega) w4) rfl ?_
      have h := Option.some.inj h
      subst h
      exact ds_aret (by decide +kernel) (by decide +kernel)
    · rw [if_neg c2] at h
      refine ds_icmp_ge_f (off := 36) (t := 177) (p := 144) (by decide +kernel) (by decide +kernel) rfl (fun q => c2 ((gc_le rfl rfl (by decide) z1).mp q)) ?_
      refine ds_iload_n (k := 2) (p := 145) (by decide +kernel) rfl rfl ?_
      refine ds_bipush (n := 8) (p := 147) (by decide +kernel) rfl dkb_8 ?_
      by_cases c6 : x2 = 8
      · rw [if_pos c6] at h
        refine ds_icmp_eq_t (off := 24) (t := 171) (by decide +kernel) (by decide +kernel) ((gc_eq rfl rfl z1 (by decide)).mpr c6) ?_
        exact de_252_171 hz hd ih _ _ _ _ _ _ h
      · rw [if_neg c6] at h
        refine ds_icmp_eq_f (off := 24) (t := 171) (p := 150) (by decide +kernel) (by decide +kernel) rfl (fun q => c6 ((gc_eq rfl rfl z1 (by decide)).mp q)) ?_
        refine ds_iload_n (k := 2) (p := 151) (by decide +kernel) rfl rfl ?_
        refine ds_bipush (n := 9) (p := 153) (by decide +kernel) rfl dkb_9 ?_
        by_cases c7 : x2 = 9
        · rw [if_pos c7] at h
          refine ds_icmp_eq_t (off := 18) (t := 171) (by decide +kernel) (by decide +kernel) ((gc_eq rfl rfl z1 (by decide)).mpr c7) ?_
          exact de_252_171 hz hd ih _ _ _ _ _ _ h
        · rw [if_neg c7] at h
          refine ds_icmp_eq_f (off := 18) (t := 171) (p := 156) (by decide +kernel) (by decide +kernel) rfl (fun q => c7 ((gc_eq rfl rfl z1 (by decide)).mp q)) ?_
          refine ds_aload_n (k := 1) (p := 157) (by decide +kernel) rfl rfl ?_
          refine ds_bipush (n := 32) (p := 159) (by decide +kernel) rfl dkb_32 ?_
          obtain ⟨z10, h⟩ := fx_gd h
          obtain ⟨q8, w9, h⟩ := fx_bd h
          refine ds_callV (idx := 31) (mj := 258) (ci := 11) (na := 1) (mx := 2) (p := 162) (args := [.ref x1, .int (Int32.ofInt 32)]) (rest := []) (al2 := [some (.ref x1), some (.int (Int32.ofInt 32))]) (S2 := q8.2) (by decide +kernel) rfl (by decide +kernel) (Or.inl ⟨_, rfl, Or.inl z10⟩) rfl rfl rfl rfl rfl rfl (by omega) (fun d' hd' => de_258 hz (by omega) w9) rfl ?_
          refine ds_aload_n (k := 0) (p := 163) (by decide +kernel) rfl rfl ?_
          refine ds_iload_n (k := 2) (p := 164) (by decide +kernel) rfl rfl ?_
          obtain ⟨q11, w12, h⟩ := fx_bd h
          refine ds_callV (idx := 149) (mj := 111) (ci := 9) (na := 1) (mx := 2) (p := 167) (args := [.ref 0, .int (Int32.ofInt x2)]) (rest := [.ref q8.1]) (al2 := [some (.ref 0), some (.int (Int32.ofInt x2))]) (S2 := (q11.2, q8.2.2)) (by decide +kernel) rfl (by decide +kernel) (Or.inl ⟨_, rfl, Or.inr fo_0⟩) rfl rfl rfl rfl rfl rfl (by omega) (fun d' hd' => dx_cls (fe_111 (by omega) (gf_111 rfl rfl w12))) rfl ?_
          obtain ⟨z15, h⟩ := fx_gd h
          obtain ⟨q13, w14, h⟩ := fx_bd h
          refine ds_callV (idx := 90) (mj := 259) (ci := 11) (na := 1) (mx := 2) (p := 170) (args := [.ref q8.1, .int (Int32.ofInt q11.1)]) (rest := []) (al2 := [some (.ref q8.1), some (.int (Int32.ofInt q11.1))]) (S2 := q13.2) (by decide +kernel) rfl (by decide +kernel) (Or.inl ⟨_, rfl, Or.inl z15⟩) rfl rfl rfl rfl rfl rfl (by omega) (fun d' hd' => de_259 hz (by omega) w14) rfl ?_
          refine ds_pop (p := 171) (by decide +kernel) rfl rfl ?_
          exact de_252_171 hz hd ih _ _ _ _ _ _ h
def dm_252_114 (L : Nat) (xs : Nat → Int32) : Nat → Nat → Int → gx_S → dS → Option (Nat × DS)
  | 0, _, _, _, _ => none
  | n + 1, x1, x2, s, δ =>
    if (-2147483648 ≤ x2 ∧ x2 ≤ 2147483647) then (
    if 8 ≤ x2 then (
      dm_252_138 L xs 100000 x1 0 s δ) else (
      (gm_113 x2 s).bind fun q3 =>
      if dO δ x1 11 then (
      (dm_259 x1 q3.1 q3.2 δ).bind fun q5 =>
      dm_252_114 L xs n x1 (x2 + 1) q5.2.1 q5.2.2) else none)) else none
theorem de_252_114 {z : iv_Z} {L : Nat} {xs : Nat → Int32} (hz : dZ z L xs) {d : Nat} (hd : 7 ≤ d) : ∀ (n : Nat) (x1 : Nat) (x2 : Int) (o3 : Option Value) (s : gx_S) (δ : dS) (q : Nat × DS), dm_252_114 L xs n x1 x2 s δ = some q → dE z 252 d 114 [some (.ref 0), some (.ref x1), some (.int (Int32.ofInt x2)), o3] [] (s, δ) (some (.ref q.1)) q.2 := by
  intro n
  induction n with
  | zero =>
    intro x1 x2 o3 s δ q h
    rw [dm_252_114] at h
    exact fx_no h
  | succ n ih =>
    intro x1 x2 o3 s δ q h
    rw [dm_252_114] at h
    refine ds_iload_n (k := 2) (p := 115) (by decide +kernel) rfl rfl ?_
    refine ds_bipush (n := 8) (p := 117) (by decide +kernel) rfl dkb_8 ?_
    obtain ⟨z1, h⟩ := fx_gd h
    by_cases c2 : 8 ≤ x2
    · rw [if_pos c2] at h
      refine ds_icmp_ge_t (off := 19) (t := 136) (by decide +kernel) (by decide +kernel) ((gc_le rfl rfl (by decide) z1).mpr c2) ?_
      refine ds_iconst (n := 0) (p := 137) (by decide +kernel) rfl rfl ?_
      refine ds_istore_n (k := 2) (p := 138) (M := 4) (al' := [some (.ref 0), some (.ref x1), some (.int (Int32.ofInt 0)), o3]) (by decide +kernel) rfl mx_252 rfl rfl ?_
      exact de_252_138 hz hd 100000 _ _ _ _ _ _ h
    · rw [if_neg c2] at h
      refine ds_icmp_ge_f (off := 19) (t := 136) (p := 120) (by decide +kernel) (by decide +kernel) rfl (fun q => c2 ((gc_le rfl rfl (by decide) z1).mp q)) ?_
      refine ds_aload_n (k := 1) (p := 121) (by decide +kernel) rfl rfl ?_
      refine ds_aload_n (k := 0) (p := 122) (by decide +kernel) rfl rfl ?_
      refine ds_iload_n (k := 2) (p := 123) (by decide +kernel) rfl rfl ?_
      obtain ⟨q3, w4, h⟩ := fx_bd h
      refine ds_callV (idx := 146) (mj := 113) (ci := 9) (na := 1) (mx := 2) (p := 126) (args := [.ref 0, .int (Int32.ofInt x2)]) (rest := [.ref x1]) (al2 := [some (.ref 0), some (.int (Int32.ofInt x2))]) (S2 := (q3.2, δ)) (by decide +kernel) rfl (by decide +kernel) (Or.inl ⟨_, rfl, Or.inr fo_0⟩) rfl rfl rfl rfl rfl rfl (by omega) (fun d' hd' => dx_cls (fe_113 (by omega) (gf_113 rfl rfl w4))) rfl ?_
      obtain ⟨z7, h⟩ := fx_gd h
      obtain ⟨q5, w6, h⟩ := fx_bd h
      refine ds_callV (idx := 90) (mj := 259) (ci := 11) (na := 1) (mx := 2) (p := 129) (args := [.ref x1, .int (Int32.ofInt q3.1)]) (rest := []) (al2 := [some (.ref x1), some (.int (Int32.ofInt q3.1))]) (S2 := q5.2) (by decide +kernel) rfl (by decide +kernel) (Or.inl ⟨_, rfl, Or.inl z7⟩) rfl rfl rfl rfl rfl rfl (by omega) (fun d' hd' => de_259 hz (by omega) w6) rfl ?_
      refine ds_pop (p := 130) (by decide +kernel) rfl rfl ?_
      refine ds_iinc (k := 2) (n := 1) (p := 133) (M := 4) (y := Int32.ofInt (x2 + 1)) (al' := [some (.ref 0), some (.ref x1), some (.int (Int32.ofInt (x2 + 1))), o3]) (by decide +kernel) rfl rfl mx_252 rfl rfl (ga_add rfl rfl) rfl ?_
      refine ds_goto (off := -19) (p := 114) (by decide +kernel) (by decide +kernel) ?_
      exact ih _ _ _ _ _ _ h
def dm_252_67 (L : Nat) (xs : Nat → Int32) (k_60 : Nat → Int → gx_S → dS → Option (Nat × DS)) : Nat → Nat → Int → Int → gx_S → dS → Option (Nat × DS)
  | 0, _, _, _, _, _ => none
  | n + 1, x1, x2, x3, s, δ =>
    if (-2147483648 ≤ x3 ∧ x3 ≤ 2147483647) then (
    if 11 ≤ x3 then (
      k_60 x1 (x2 + 1) s δ) else (
      (gm_97 x2 x3 s).bind fun q3 =>
      if dO δ x1 11 then (
      (dm_259 x1 q3.1 q3.2 δ).bind fun q5 =>
      if dO q5.2.2 q5.1 11 then (
      (dm_258 q5.1 44 q5.2.1 q5.2.2).bind fun q8 =>
      if 0 ≤ x3 ∧ x3 ≤ 2147483647 then (
      (gm_112 x2 (x3 % 4) q8.2.1).bind fun q12 =>
      if dO q8.2.2 q8.1 11 then (
      (dm_259 q8.1 q12.1 q12.2 q8.2.2).bind fun q14 =>
      dm_252_67 L xs k_60 n x1 x2 (x3 + 1) q14.2.1 q14.2.2) else none) else none) else none) else none)) else none
theorem de_252_67 {z : iv_Z} {L : Nat} {xs : Nat → Int32} (hz : dZ z L xs) {d : Nat} (hd : 7 ≤ d) {k_60 : Nat → Int → gx_S → dS → Option (Nat × DS)} (hk_60 : ∀ (x1 : Nat) (x2 : Int) (o3 : Option Value) (s : gx_S) (δ : dS) (q : Nat × DS), k_60 x1 x2 s δ = some q → dE z 252 d 60 [some (.ref 0), some (.ref x1), some (.int (Int32.ofInt x2)), o3] [] (s, δ) (some (.ref q.1)) q.2) : ∀ (n : Nat) (x1 : Nat) (x2 : Int) (x3 : Int) (s : gx_S) (δ : dS) (q : Nat × DS), dm_252_67 L xs k_60 n x1 x2 x3 s δ = some q → dE z 252 d 67 [some (.ref 0), some (.ref x1), some (.int (Int32.ofInt x2)), some (.int (Int32.ofInt x3))] [] (s, δ) (some (.ref q.1)) q.2 := by
  intro n
  induction n with
  | zero =>
    intro x1 x2 x3 s δ q h
    rw [dm_252_67] at h
    exact fx_no h
  | succ n ih =>
    intro x1 x2 x3 s δ q h
    rw [dm_252_67] at h
    refine ds_iload_n (k := 3) (p := 68) (by decide +kernel) rfl rfl ?_
    refine ds_bipush (n := 11) (p := 70) (by decide +kernel) rfl dkb_11 ?_
    obtain ⟨z1, h⟩ := fx_gd h
    by_cases c2 : 11 ≤ x3
    · rw [if_pos c2] at h
      refine ds_icmp_ge_t (off := 36) (t := 106) (by decide +kernel) (by decide +kernel) ((gc_le rfl rfl (by decide) z1).mpr c2) ?_
      refine ds_iinc (k := 2) (n := 1) (p := 109) (M := 4) (y := Int32.ofInt (x2 + 1)) (al' := [some (.ref 0), some (.ref x1), some (.int (Int32.ofInt (x2 + 1))), some (.int (Int32.ofInt x3))]) (by decide +kernel) rfl rfl mx_252 rfl rfl (ga_add rfl rfl) rfl ?_
      refine ds_goto (off := -49) (p := 60) (by decide +kernel) (by decide +kernel) ?_
      exact hk_60 _ _ _ _ _ _ h
    · rw [if_neg c2] at h
      refine ds_icmp_ge_f (off := 36) (t := 106) (p := 73) (by decide +kernel) (by decide +kernel) rfl (fun q => c2 ((gc_le rfl rfl (by decide) z1).mp q)) ?_
      refine ds_aload_n (k := 1) (p := 74) (by decide +kernel) rfl rfl ?_
      refine ds_aload_n (k := 0) (p := 75) (by decide +kernel) rfl rfl ?_
      refine ds_iload_n (k := 2) (p := 76) (by decide +kernel) rfl rfl ?_
      refine ds_iload_n (k := 3) (p := 77) (by decide +kernel) rfl rfl ?_
      obtain ⟨q3, w4, h⟩ := fx_bd h
      refine ds_callV (idx := 141) (mj := 97) (ci := 9) (na := 2) (mx := 4) (p := 80) (args := [.ref 0, .int (Int32.ofInt x2), .int (Int32.ofInt x3)]) (rest := [.ref x1]) (al2 := [some (.ref 0), some (.int (Int32.ofInt x2)), some (.int (Int32.ofInt x3)), none]) (S2 := (q3.2, δ)) (by decide +kernel) rfl (by decide +kernel) (Or.inl ⟨_, rfl, Or.inr fo_0⟩) rfl rfl rfl rfl rfl rfl (by omega) (fun d' hd' => dx_cls (fe_97 (by omega) (gf_97 rfl rfl rfl w4))) rfl ?_
      obtain ⟨z7, h⟩ := fx_gd h
      obtain ⟨q5, w6, h⟩ := fx_bd h
      refine ds_callV (idx := 90) (mj := 259) (ci := 11) (na := 1) (mx := 2) (p := 83) (args := [.ref x1, .int (Int32.ofInt q3.1)]) (rest := []) (al2 := [some (.ref x1), some (.int (Int32.ofInt q3.1))]) (S2 := q5.2) (by decide +kernel) rfl (by decide +kernel) (Or.inl ⟨_, rfl, Or.inl z7⟩) rfl rfl rfl rfl rfl rfl (by omega) (fun d' hd' => de_259 hz (by omega) w6) rfl ?_
      refine ds_bipush (n := 44) (p := 85) (by decide +kernel) rfl dkb_44 ?_
      obtain ⟨z10, h⟩ := fx_gd h
      obtain ⟨q8, w9, h⟩ := fx_bd h
      refine ds_callV (idx := 31) (mj := 258) (ci := 11) (na := 1) (mx := 2) (p := 88) (args := [.ref q5.1, .int (Int32.ofInt 44)]) (rest := []) (al2 := [some (.ref q5.1), some (.int (Int32.ofInt 44))]) (S2 := q8.2) (by decide +kernel) rfl (by decide +kernel) (Or.inl ⟨_, rfl, Or.inl z10⟩) rfl rfl rfl rfl rfl rfl (by omega) (fun d' hd' => de_258 hz (by omega) w9) rfl ?_
      refine ds_aload_n (k := 0) (p := 89) (by decide +kernel) rfl rfl ?_
      refine ds_iload_n (k := 2) (p := 90) (by decide +kernel) rfl rfl ?_
      refine ds_iload_n (k := 3) (p := 91) (by decide +kernel) rfl rfl ?_
      refine ds_iconst (n := 4) (p := 92) (by decide +kernel) rfl rfl ?_
      obtain ⟨z11, h⟩ := fx_gd h
      refine ds_irem (p := 93) (c := Int32.ofInt (x3 % 4)) (by decide +kernel) rfl (gc_nz rfl (x := x3) ⟨z11.1, z11.2, by decide, by decide⟩) (ga_rem rfl rfl ⟨z11.1, z11.2, by decide, by decide⟩) ?_
      obtain ⟨q12, w13, h⟩ := fx_bd h
      refine ds_callV (idx := 144) (mj := 112) (ci := 9) (na := 2) (mx := 3) (p := 96) (args := [.ref 0, .int (Int32.ofInt x2), .int (Int32.ofInt (x3 % 4))]) (rest := [.ref q8.1]) (al2 := [some (.ref 0), some (.int (Int32.ofInt x2)), some (.int (Int32.ofInt (x3 % 4)))]) (S2 := (q12.2, q8.2.2)) (by decide +kernel) rfl (by decide +kernel) (Or.inl ⟨_, rfl, Or.inr fo_0⟩) rfl rfl rfl rfl rfl rfl (by omega) (fun d' hd' => dx_cls (fe_112 (by omega) (gf_112 rfl rfl rfl w13))) rfl ?_
      obtain ⟨z16, h⟩ := fx_gd h
      obtain ⟨q14, w15, h⟩ := fx_bd h
      refine ds_callV (idx := 90) (mj := 259) (ci := 11) (na := 1) (mx := 2) (p := 99) (args := [.ref q8.1, .int (Int32.ofInt q12.1)]) (rest := []) (al2 := [some (.ref q8.1), some (.int (Int32.ofInt q12.1))]) (S2 := q14.2) (by decide +kernel) rfl (by decide +kernel) (Or.inl ⟨_, rfl, Or.inl z16⟩) rfl rfl rfl rfl rfl rfl (by omega) (fun d' hd' => de_259 hz (by omega) w15) rfl ?_
      refine ds_pop (p := 100) (by decide +kernel) rfl rfl ?_
      refine ds_iinc (k := 3) (n := 1) (p := 103) (M := 4) (y := Int32.ofInt (x3 + 1)) (al' := [some (.ref 0), some (.ref x1), some (.int (Int32.ofInt x2)), some (.int (Int32.ofInt (x3 + 1)))]) (by decide +kernel) rfl rfl mx_252 rfl rfl (ga_add rfl rfl) rfl ?_
      refine ds_goto (off := -36) (p := 67) (by decide +kernel) (by decide +kernel) ?_
      exact ih _ _ _ _ _ _ h
def dm_252_60 (L : Nat) (xs : Nat → Int32) : Nat → Nat → Int → gx_S → dS → Option (Nat × DS)
  | 0, _, _, _, _ => none
  | n + 1, x1, x2, s, δ =>
    if (-2147483648 ≤ x2 ∧ x2 ≤ 2147483647) then (
    if 3 ≤ x2 then (
      dm_252_114 L xs 100000 x1 0 s δ) else (
      dm_252_67 L xs (dm_252_60 L xs n) 100000 x1 x2 0 s δ)) else none
theorem de_252_60 {z : iv_Z} {L : Nat} {xs : Nat → Int32} (hz : dZ z L xs) {d : Nat} (hd : 7 ≤ d) : ∀ (n : Nat) (x1 : Nat) (x2 : Int) (o3 : Option Value) (s : gx_S) (δ : dS) (q : Nat × DS), dm_252_60 L xs n x1 x2 s δ = some q → dE z 252 d 60 [some (.ref 0), some (.ref x1), some (.int (Int32.ofInt x2)), o3] [] (s, δ) (some (.ref q.1)) q.2 := by
  intro n
  induction n with
  | zero =>
    intro x1 x2 o3 s δ q h
    rw [dm_252_60] at h
    exact fx_no h
  | succ n ih =>
    intro x1 x2 o3 s δ q h
    rw [dm_252_60] at h
    refine ds_iload_n (k := 2) (p := 61) (by decide +kernel) rfl rfl ?_
    refine ds_iconst (n := 3) (p := 62) (by decide +kernel) rfl rfl ?_
    obtain ⟨z1, h⟩ := fx_gd h
    by_cases c2 : 3 ≤ x2
    · rw [if_pos c2] at h
      refine ds_icmp_ge_t (off := 50) (t := 112) (by decide +kernel) (by decide +kernel) ((gc_le rfl rfl (by decide) z1).mpr c2) ?_
      refine ds_iconst (n := 0) (p := 113) (by decide +kernel) rfl rfl ?_
      refine ds_istore_n (k := 2) (p := 114) (M := 4) (al' := [some (.ref 0), some (.ref x1), some (.int (Int32.ofInt 0)), o3]) (by decide +kernel) rfl mx_252 rfl rfl ?_
      exact de_252_114 hz hd 100000 _ _ _ _ _ _ h
    · rw [if_neg c2] at h
      refine ds_icmp_ge_f (off := 50) (t := 112) (p := 65) (by decide +kernel) (by decide +kernel) rfl (fun q => c2 ((gc_le rfl rfl (by decide) z1).mp q)) ?_
      refine ds_iconst (n := 0) (p := 66) (by decide +kernel) rfl rfl ?_
      refine ds_istore_n (k := 3) (p := 67) (M := 4) (al' := [some (.ref 0), some (.ref x1), some (.int (Int32.ofInt x2)), some (.int (Int32.ofInt 0))]) (by decide +kernel) rfl mx_252 rfl rfl ?_
      exact de_252_67 hz hd ih 100000 _ _ _ _ _ _ h
def dm_252_17 (L : Nat) (xs : Nat → Int32) (k_10 : Nat → Int → gx_S → dS → Option (Nat × DS)) : Nat → Nat → Int → Int → gx_S → dS → Option (Nat × DS)
  | 0, _, _, _, _, _ => none
  | n + 1, x1, x2, x3, s, δ =>
    if (-2147483648 ≤ x3 ∧ x3 ≤ 2147483647) then (
    if 96 ≤ x3 then (
      k_10 x1 (x2 + 1) s δ) else (
      if 0 ≤ x3 ∧ x3 ≤ 2147483647 then (
      (gm_95 x2 (x3 / 12) (x3 % 12) s).bind fun q4 =>
      if dO δ x1 11 then (
      (dm_259 x1 q4.1 q4.2 δ).bind fun q6 =>
      if dO q6.2.2 q6.1 11 then (
      (dm_258 q6.1 32 q6.2.1 q6.2.2).bind fun q9 =>
      dm_252_17 L xs k_10 n x1 x2 (x3 + 1) q9.2.1 q9.2.2) else none) else none) else none)) else none
theorem de_252_17 {z : iv_Z} {L : Nat} {xs : Nat → Int32} (hz : dZ z L xs) {d : Nat} (hd : 7 ≤ d) {k_10 : Nat → Int → gx_S → dS → Option (Nat × DS)} (hk_10 : ∀ (x1 : Nat) (x2 : Int) (o3 : Option Value) (s : gx_S) (δ : dS) (q : Nat × DS), k_10 x1 x2 s δ = some q → dE z 252 d 10 [some (.ref 0), some (.ref x1), some (.int (Int32.ofInt x2)), o3] [] (s, δ) (some (.ref q.1)) q.2) : ∀ (n : Nat) (x1 : Nat) (x2 : Int) (x3 : Int) (s : gx_S) (δ : dS) (q : Nat × DS), dm_252_17 L xs k_10 n x1 x2 x3 s δ = some q → dE z 252 d 17 [some (.ref 0), some (.ref x1), some (.int (Int32.ofInt x2)), some (.int (Int32.ofInt x3))] [] (s, δ) (some (.ref q.1)) q.2 := by
  intro n
  induction n with
  | zero =>
    intro x1 x2 x3 s δ q h
    rw [dm_252_17] at h
    exact fx_no h
  | succ n ih =>
    intro x1 x2 x3 s δ q h
    rw [dm_252_17] at h
    refine ds_iload_n (k := 3) (p := 18) (by decide +kernel) rfl rfl ?_
    refine ds_bipush (n := 96) (p := 20) (by decide +kernel) rfl dkb_96 ?_
    obtain ⟨z1, h⟩ := fx_gd h
    by_cases c2 : 96 ≤ x3
    · rw [if_pos c2] at h
      refine ds_icmp_ge_t (off := 32) (t := 52) (by decide +kernel) (by decide +kernel) ((gc_le rfl rfl (by decide) z1).mpr c2) ?_
      refine ds_iinc (k := 2) (n := 1) (p := 55) (M := 4) (y := Int32.ofInt (x2 + 1)) (al' := [some (.ref 0), some (.ref x1), some (.int (Int32.ofInt (x2 + 1))), some (.int (Int32.ofInt x3))]) (by decide +kernel) rfl rfl mx_252 rfl rfl (ga_add rfl rfl) rfl ?_
      refine ds_goto (off := -45) (p := 10) (by decide +kernel) (by decide +kernel) ?_
      exact hk_10 _ _ _ _ _ _ h
    · rw [if_neg c2] at h
      refine ds_icmp_ge_f (off := 32) (t := 52) (p := 23) (by decide +kernel) (by decide +kernel) rfl (fun q => c2 ((gc_le rfl rfl (by decide) z1).mp q)) ?_
      refine ds_aload_n (k := 1) (p := 24) (by decide +kernel) rfl rfl ?_
      refine ds_aload_n (k := 0) (p := 25) (by decide +kernel) rfl rfl ?_
      refine ds_iload_n (k := 2) (p := 26) (by decide +kernel) rfl rfl ?_
      refine ds_iload_n (k := 3) (p := 27) (by decide +kernel) rfl rfl ?_
      refine ds_bipush (n := 12) (p := 29) (by decide +kernel) rfl dkb_12 ?_
      obtain ⟨z3, h⟩ := fx_gd h
      refine ds_idiv (p := 30) (c := Int32.ofInt (x3 / 12)) (by decide +kernel) rfl (gc_nz rfl (x := x3) ⟨z3.1, z3.2, by decide, by decide⟩) (ga_div rfl rfl ⟨z3.1, z3.2, by decide, by decide⟩) ?_
      refine ds_iload_n (k := 3) (p := 31) (by decide +kernel) rfl rfl ?_
      refine ds_bipush (n := 12) (p := 33) (by decide +kernel) rfl dkb_12 ?_
      refine ds_irem (p := 34) (c := Int32.ofInt (x3 % 12)) (by decide +kernel) rfl (gc_nz rfl (x := x3) ⟨z3.1, z3.2, by decide, by decide⟩) (ga_rem rfl rfl ⟨z3.1, z3.2, by decide, by decide⟩) ?_
      obtain ⟨q4, w5, h⟩ := fx_bd h
      refine ds_callV (idx := 138) (mj := 95) (ci := 9) (na := 3) (mx := 5) (p := 37) (args := [.ref 0, .int (Int32.ofInt x2), .int (Int32.ofInt (x3 / 12)), .int (Int32.ofInt (x3 % 12))]) (rest := [.ref x1]) (al2 := [some (.ref 0), some (.int (Int32.ofInt x2)), some (.int (Int32.ofInt (x3 / 12))), some (.int (Int32.ofInt (x3 % 12))), none]) (S2 := (q4.2, δ)) (by decide +kernel) rfl (by decide +kernel) (Or.inl ⟨_, rfl, Or.inr fo_0⟩) rfl rfl rfl rfl rfl rfl (by omega) (fun d' hd' => dx_cls (fe_95 (by omega) (gf_95 rfl rfl rfl rfl w5))) rfl ?_
      obtain ⟨z8, h⟩ := fx_gd h
      obtain ⟨q6, w7, h⟩ := fx_bd h
      refine ds_callV (idx := 90) (mj := 259) (ci := 11) (na := 1) (mx := 2) (p := 40) (args := [.ref x1, .int (Int32.ofInt q4.1)]) (rest := []) (al2 := [some (.ref x1), some (.int (Int32.ofInt q4.1))]) (S2 := q6.2) (by decide +kernel) rfl (by decide +kernel) (Or.inl ⟨_, rfl, Or.inl z8⟩) rfl rfl rfl rfl rfl rfl (by omega) (fun d' hd' => de_259 hz (by omega) w7) rfl ?_
      refine ds_bipush (n := 32) (p := 42) (by decide +kernel) rfl dkb_32 ?_
      obtain ⟨z11, h⟩ := fx_gd h
      obtain ⟨q9, w10, h⟩ := fx_bd h
      refine ds_callV (idx := 31) (mj := 258) (ci := 11) (na := 1) (mx := 2) (p := 45) (args := [.ref q6.1, .int (Int32.ofInt 32)]) (rest := []) (al2 := [some (.ref q6.1), some (.int (Int32.ofInt 32))]) (S2 := q9.2) (by decide +kernel) rfl (by decide +kernel) (Or.inl ⟨_, rfl, Or.inl z11⟩) rfl rfl rfl rfl rfl rfl (by omega) (fun d' hd' => de_258 hz (by omega) w10) rfl ?_
      refine ds_pop (p := 46) (by decide +kernel) rfl rfl ?_
      refine ds_iinc (k := 3) (n := 1) (p := 49) (M := 4) (y := Int32.ofInt (x3 + 1)) (al' := [some (.ref 0), some (.ref x1), some (.int (Int32.ofInt x2)), some (.int (Int32.ofInt (x3 + 1)))]) (by decide +kernel) rfl rfl mx_252 rfl rfl (ga_add rfl rfl) rfl ?_
      refine ds_goto (off := -32) (p := 17) (by decide +kernel) (by decide +kernel) ?_
      exact ih _ _ _ _ _ _ h
def dm_252_10 (L : Nat) (xs : Nat → Int32) : Nat → Nat → Int → gx_S → dS → Option (Nat × DS)
  | 0, _, _, _, _ => none
  | n + 1, x1, x2, s, δ =>
    if (-2147483648 ≤ x2 ∧ x2 ≤ 2147483647) then (
    if 3 ≤ x2 then (
      dm_252_60 L xs 100000 x1 0 s δ) else (
      dm_252_17 L xs (dm_252_10 L xs n) 100000 x1 x2 0 s δ)) else none
theorem de_252_10 {z : iv_Z} {L : Nat} {xs : Nat → Int32} (hz : dZ z L xs) {d : Nat} (hd : 7 ≤ d) : ∀ (n : Nat) (x1 : Nat) (x2 : Int) (o3 : Option Value) (s : gx_S) (δ : dS) (q : Nat × DS), dm_252_10 L xs n x1 x2 s δ = some q → dE z 252 d 10 [some (.ref 0), some (.ref x1), some (.int (Int32.ofInt x2)), o3] [] (s, δ) (some (.ref q.1)) q.2 := by
  intro n
  induction n with
  | zero =>
    intro x1 x2 o3 s δ q h
    rw [dm_252_10] at h
    exact fx_no h
  | succ n ih =>
    intro x1 x2 o3 s δ q h
    rw [dm_252_10] at h
    refine ds_iload_n (k := 2) (p := 11) (by decide +kernel) rfl rfl ?_
    refine ds_iconst (n := 3) (p := 12) (by decide +kernel) rfl rfl ?_
    obtain ⟨z1, h⟩ := fx_gd h
    by_cases c2 : 3 ≤ x2
    · rw [if_pos c2] at h
      refine ds_icmp_ge_t (off := 46) (t := 58) (by decide +kernel) (by decide +kernel) ((gc_le rfl rfl (by decide) z1).mpr c2) ?_
      refine ds_iconst (n := 0) (p := 59) (by decide +kernel) rfl rfl ?_
      refine ds_istore_n (k := 2) (p := 60) (M := 4) (al' := [some (.ref 0), some (.ref x1), some (.int (Int32.ofInt 0)), o3]) (by decide +kernel) rfl mx_252 rfl rfl ?_
      exact de_252_60 hz hd 100000 _ _ _ _ _ _ h
    · rw [if_neg c2] at h
      refine ds_icmp_ge_f (off := 46) (t := 58) (p := 15) (by decide +kernel) (by decide +kernel) rfl (fun q => c2 ((gc_le rfl rfl (by decide) z1).mp q)) ?_
      refine ds_iconst (n := 0) (p := 16) (by decide +kernel) rfl rfl ?_
      refine ds_istore_n (k := 3) (p := 17) (M := 4) (al' := [some (.ref 0), some (.ref x1), some (.int (Int32.ofInt x2)), some (.int (Int32.ofInt 0))]) (by decide +kernel) rfl mx_252 rfl rfl ?_
      exact de_252_17 hz hd ih 100000 _ _ _ _ _ _ h
def dm_252 (L : Nat) (xs : Nat → Int32) (s : gx_S) (δ : dS) : Option (Nat × DS) :=
  (some (δ.al (100 + 11) (dnf 11))).bind fun t1 =>
  if dO t1 δ.n 11 then (
  (dm_257 δ.n s t1).bind fun q3 =>
  dm_252_10 L xs 100000 δ.n 0 q3.1 q3.2) else none
theorem de_252 {z : iv_Z} {L : Nat} {xs : Nat → Int32} (hz : dZ z L xs) {d : Nat} (hd : 7 ≤ d) {s : gx_S} {δ : dS} {q : Nat × DS} (h : dm_252 L xs s δ = some q) : dE z 252 d 0 [some (.ref 0), none, none, none] [] (s, δ) (some (.ref q.1)) q.2 := by
  unfold dm_252 at h
  obtain ⟨t1, w2, h⟩ := fx_bd h
  refine ds_new (idx := 28) (ci := 11) (p := 3) (by decide +kernel) rfl (by decide +kernel) (by decide +kernel) ?_
  rw [Option.some.inj w2]
  refine ds_dup (p := 4) (by decide +kernel) rfl rfl ?_
  obtain ⟨z5, h⟩ := fx_gd h
  obtain ⟨q3, w4, h⟩ := fx_bd h
  refine ds_callP (idx := 30) (mj := 257) (ci := 11) (na := 0) (mx := 1) (p := 7) (args := [.ref δ.n]) (rest := [.ref δ.n]) (al2 := [some (.ref δ.n)]) (S2 := q3) (by decide +kernel) rfl (by decide +kernel) (Or.inl ⟨_, rfl, Or.inl z5⟩) rfl rfl rfl rfl rfl rfl (by omega) (fun d' hd' => de_257 hz (by omega) w4) rfl ?_
  refine ds_astore_n (k := 1) (p := 8) (M := 4) (al' := [some (.ref 0), some (.ref δ.n), none, none]) (by decide +kernel) rfl mx_252 rfl rfl ?_
  refine ds_iconst (n := 0) (p := 9) (by decide +kernel) rfl rfl ?_
  refine ds_istore_n (k := 2) (p := 10) (M := 4) (al' := [some (.ref 0), some (.ref δ.n), some (.int (Int32.ofInt 0)), none]) (by decide +kernel) rfl mx_252 rfl rfl ?_
  exact de_252_10 hz hd 100000 _ _ _ _ _ _ h
