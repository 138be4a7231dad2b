/-! ZoneSharesLaw.isSurface(LZoneShares;LZoneSharesLaw$Map;I)Z c d -/
theorem mx_255 : iv_mx 255 = 14 := by decide +kernel
theorem rt_255 : iv_rt 255 = some .boolean := by decide +kernel
def dm_255_553 (L : Nat) (xs : Nat → Int32) (k_394 : Nat → Int → Int → Int → gx_S → dS → Option (Int × DS)) (x1 : Nat) (x2 : Int) (x4 : Int) (x6 : Int) (s : gx_S) (δ : dS) : Option (Int × DS) :=
  k_394 x1 x2 x4 (x6 + 1) s δ
theorem de_255_553 {z : iv_Z} {L : Nat} {xs : Nat → Int32} (hz : dZ z L xs) {d : Nat} (hd : 102 ≤ d) {k_394 : Nat → Int → Int → Int → gx_S → dS → Option (Int × DS)} (hk_394 : ∀ (x1 : Nat) (x2 : Int) (x4 : Int) (x6 : Int) (o3 : Option Value) (o5 : Option Value) (o7 : Option Value) (o8 : Option Value) (o9 : Option Value) (o10 : Option Value) (o11 : Option Value) (o12 : Option Value) (s : gx_S) (δ : dS) (q : Int × DS), k_394 x1 x2 x4 x6 s δ = some q → dE z 255 d 394 [some (.ref 0), some (.ref x1), some (.int (Int32.ofInt x2)), o3, some (.int (Int32.ofInt x4)), o5, some (.int (Int32.ofInt x6)), o7, o8, o9, o10, o11, o12, none] [] (s, δ) (some (.int (Int32.ofInt q.1))) q.2) (x1 : Nat) (x2 : Int) (x4 : Int) (x6 : Int) (o3 : Option Value) (o5 : Option Value) (o7 : Option Value) (o8 : Option Value) (o10 : Option Value) (o11 : Option Value) (o12 : Option Value) (s : gx_S) (δ : dS) (q : Int × DS) (h : dm_255_553 L xs k_394  x1 x2 x4 x6 s δ = some q) : dE z 255 d 553 [some (.ref 0), some (.ref x1), some (.int (Int32.ofInt x2)), o3, some (.int (Int32.ofInt x4)), o5, some (.int (Int32.ofInt x6)), o7, o8, none, o10, o11, o12, none] [] (s, δ) (some (.int (Int32.ofInt q.1))) q.2 := by
  unfold dm_255_553 at h
  refine ds_iinc (k := 6) (n := 1) (p := 556) (M := 14) (y := Int32.ofInt (x6 + 1)) (al' := [some (.ref 0), some (.ref x1), some (.int (Int32.ofInt x2)), o3, some (.int (Int32.ofInt x4)), (fx_kl o5), some (.int (Int32.ofInt (x6 + 1))), o7, o8, none, o10, o11, o12, none]) (by decide +kernel) rfl rfl mx_255 rfl rfl (ga_add rfl rfl) rfl ?_
  refine ds_goto (off := -162) (p := 394) (by decide +kernel) (by decide +kernel) ?_
  exact hk_394 _ _ _ _ _ _ _ _ _ _ _ _ _ _ _ h
def dm_255_394 (L : Nat) (xs : Nat → Int32) : Nat → Nat → Int → Int → Int → gx_S → dS → Option (Int × DS)
  | 0, _, _, _, _, _, _ => none
  | n + 1, x1, x2, x4, x6, s, δ =>
    if (-2147483648 ≤ x6 ∧ x6 ≤ 2147483647) then (
    if 8 ≤ x6 then (
      (gm_107 x2 x4 s).bind fun q3 =>
      if (-2147483648 ≤ q3.1 ∧ q3.1 ≤ 2147483647) then (
      if ¬ q3.1 = (-1) then (
        some (0, q3.2, δ)) else (
        (gm_107 x2 (-1) q3.2).bind fun q7 =>
        if (-2147483648 ≤ q7.1 ∧ q7.1 ≤ 2147483647) then (
        if ¬ q7.1 = (-1) then (
          some (0, q7.2, δ)) else (
          if dO δ x1 10 then (
          (gm_106 x2 (δ.I x1 0) 0 0 q7.2).bind fun q12 =>
          if (-9223372036854775808 ≤ q12.1 ∧ q12.1 ≤ 9223372036854775807) then (
          if ¬ q12.1 = (-1) then (
            some (0, q12.2, δ)) else (
            (gm_106 x2 0 (δ.I x1 1) 0 q12.2).bind fun q16 =>
            if (-9223372036854775808 ≤ q16.1 ∧ q16.1 ≤ 9223372036854775807) then (
            if ¬ q16.1 = (-1) then (
              some (0, q16.2, δ)) else (
              some (1, q16.2, δ))) else none)) else none) else none)) else none)) else none) else (
      if dO δ x1 10 then (
      (δ.P x1 5).bind fun v21 =>
      (dm_243 L xs v21 x6 s δ).bind fun q23 =>
      if (-2147483648 ≤ q23.1 ∧ q23.1 ≤ 2147483647) then (
      if ¬ q23.1 = 0 then (
        (gm_99 x2 (-1) x6 q23.2.1).bind fun q27 =>
        if id_n6 (FP.ddiv (FP.i2d (Int32.ofInt q27.1)) (FP.i2d (Int32.ofInt q23.1))) = true then (
        (gm_108 x2 x6 0 q27.2).bind fun q30 =>
        if (-9223372036854775808 ≤ q30.1 ∧ q30.1 ≤ 9223372036854775807) then (
        if ¬ q30.1 = (((FP.ddiv (FP.i2d (Int32.ofInt q27.1)) (FP.i2d (Int32.ofInt q23.1)))).toInt64).toInt then (
          some (0, q30.2, q23.2.2)) else (
          (gm_108 x2 x6 1 q30.2).bind fun q34 =>
          if id_n3 (FP.d2f (FP.ddiv (FP.i2d (Int32.ofInt q27.1)) (FP.i2d (Int32.ofInt q23.1)))) = true then (
          if (-9223372036854775808 ≤ q34.1 ∧ q34.1 ≤ 9223372036854775807) then (
          if (-9223372036854775808 ≤ (((FP.d2f (FP.ddiv (FP.i2d (Int32.ofInt q27.1)) (FP.i2d (Int32.ofInt q23.1))))).toInt32).toInt ∧ (((FP.d2f (FP.ddiv (FP.i2d (Int32.ofInt q27.1)) (FP.i2d (Int32.ofInt q23.1))))).toInt32).toInt ≤ 9223372036854775807) then (
          if ¬ q34.1 = (((FP.d2f (FP.ddiv (FP.i2d (Int32.ofInt q27.1)) (FP.i2d (Int32.ofInt q23.1))))).toInt32).toInt then (
            some (0, q34.2, q23.2.2)) else (
            (gm_108 x2 x6 2 q34.2).bind fun q40 =>
            if id_n6 (FP.drem (FP.ddiv (FP.i2d (Int32.ofInt q27.1)) (FP.i2d (Int32.ofInt q23.1))) FP.dconst1) = true then (
            if (-9223372036854775808 ≤ q40.1 ∧ q40.1 ≤ 9223372036854775807) then (
            if ¬ q40.1 = (((FP.drem (FP.ddiv (FP.i2d (Int32.ofInt q27.1)) (FP.i2d (Int32.ofInt q23.1))) FP.dconst1)).toInt64).toInt then (
              some (0, q40.2, q23.2.2)) else (
              (gm_108 x2 x6 3 q40.2).bind fun q45 =>
              (gm_99 x2 (-1) x6 q45.2).bind fun q47 =>
              if (-2147483648 ≤ q47.1 ∧ q47.1 ≤ 2147483647) then (
              if 0 ≤ (2 * q47.1) ∧ (2 * q47.1) ≤ 9223372036854775807 ∧ 0 < q23.1 ∧ q23.1 ≤ 9223372036854775807 then (
              if (-9223372036854775808 ≤ q45.1 ∧ q45.1 ≤ 9223372036854775807) then (
              if (-9223372036854775808 ≤ ((2 * q47.1) / q23.1) ∧ ((2 * q47.1) / q23.1) ≤ 9223372036854775807) then (
              if ¬ q45.1 = ((2 * q47.1) / q23.1) then (
                some (0, q47.2, q23.2.2)) else (
                (gm_108 x2 x6 4 q47.2).bind fun q54 =>
                if (-9223372036854775808 ≤ q54.1 ∧ q54.1 ≤ 9223372036854775807) then (
                if q54.1 = (-9223372036854775808) then (
                  dm_255_553 L xs (dm_255_394 L xs n) x1 x2 x4 x6 q54.2 q23.2.2) else (
                  some (0, q54.2, q23.2.2))) else none)) else none) else none) else none) else none)) else none) else none)) else none) else none) else none)) else none) else none) else (
        (gm_108 x2 x6 0 q23.2.1).bind fun q58 =>
        if (-9223372036854775808 ≤ q58.1 ∧ q58.1 ≤ 9223372036854775807) then (
        if q58.1 = (-9223372036854775808) then (
          dm_255_553 L xs (dm_255_394 L xs n) x1 x2 x4 x6 q58.2 q23.2.2) else (
          some (0, q58.2, q23.2.2))) else none)) else none) else none)) else none
theorem de_255_394 {z : iv_Z} {L : Nat} {xs : Nat → Int32} (hz : dZ z L xs) {d : Nat} (hd : 102 ≤ d) : ∀ (n : Nat) (x1 : Nat) (x2 : Int) (x4 : Int) (x6 : Int) (o3 : Option Value) (o5 : Option Value) (o7 : Option Value) (o8 : Option Value) (o9 : Option Value) (o10 : Option Value) (o11 : Option Value) (o12 : Option Value) (s : gx_S) (δ : dS) (q : Int × DS), dm_255_394 L xs n x1 x2 x4 x6 s δ = some q → dE z 255 d 394 [some (.ref 0), some (.ref x1), some (.int (Int32.ofInt x2)), o3, some (.int (Int32.ofInt x4)), o5, some (.int (Int32.ofInt x6)), o7, o8, o9, o10, o11, o12, none] [] (s, δ) (some (.int (Int32.ofInt q.1))) q.2 := by
  intro n
  induction n with
  | zero =>
    intro x1 x2 x4 x6 o3 o5 o7 o8 o9 o10 o11 o12 s δ q h
    rw [dm_255_394] at h
    exact fx_no h
  | succ n ih =>
    intro x1 x2 x4 x6 o3 o5 o7 o8 o9 o10 o11 o12 s δ q h
    rw [dm_255_394] at h
    refine ds_iload (k := 6) (p := 396) (by decide +kernel) rfl rfl ?_
    refine ds_bipush (n := 8) (p := 398) (by decide +kernel) rfl dkb_8 ?_
    obtain ⟨z1, h⟩ := fx_gd h
    by_cases c2 : 8 ≤ x6
    · rw [if_pos c2] at h
      refine ds_icmp_ge_t (off := 161) (t := 559) (by decide +kernel) (by decide +kernel) ((gc_le rfl rfl (by decide) z1).mpr c2) ?_
      refine ds_aload_n (k := 0) (p := 560) (by decide +kernel) rfl rfl ?_
      refine ds_iload_n (k := 2) (p := 561) (by decide +kernel) rfl rfl ?_
      refine ds_iload (k := 4) (p := 563) (by decide +kernel) rfl rfl ?_
      obtain ⟨q3, w4, h⟩ := fx_bd h
      refine ds_callV (idx := 182) (mj := 107) (ci := 9) (na := 2) (mx := 6) (p := 566) (args := [.ref 0, .int (Int32.ofInt x2), .int (Int32.ofInt x4)]) (rest := []) (al2 := [some (.ref 0), some (.int (Int32.ofInt x2)), some (.int (Int32.ofInt x4)), none, none, none]) (S2 := (q3.2, δ)) (by decide +kernel) rfl (by decide +kernel) (Or.inl ⟨_, rfl, Or.inr fo_0⟩) rfl rfl rfl rfl rfl rfl (by omega) (fun d' hd' => dx_cls (fe_107 (by omega) (gf_107 rfl rfl rfl w4))) rfl ?_
      refine ds_iconst (n := -1) (p := 567) (by decide +kernel) rfl rfl ?_
      obtain ⟨z5, h⟩ := fx_gd h
      by_cases c6 : ¬ q3.1 = (-1)
      · rw [if_pos c6] at h
        refine ds_icmp_ne_t (off := 53) (t := 620) (by decide +kernel) (by decide +kernel) ((gc_ne rfl rfl z5 (by decide)).mpr c6) ?_
        refine ds_iconst (n := 0) (p := 621) (by decide +kernel) rfl rfl ?_
        have h := Option.some.inj h
        subst h
        exact ds_iret (by decide +kernel) rt_255 (by decide +kernel)
      · rw [if_neg c6] at h
        refine ds_icmp_ne_f (off := 53) (t := 620) (p := 570) (by decide +kernel) (by decide +kernel) rfl (fun q => c6 ((gc_ne rfl rfl z5 (by decide)).mp q)) ?_
        refine ds_aload_n (k := 0) (p := 571) (by decide +kernel) rfl rfl ?_
        refine ds_iload_n (k := 2) (p := 572) (by decide +kernel) rfl rfl ?_
        refine ds_iconst (n := -1) (p := 573) (by decide +kernel) rfl rfl ?_
        obtain ⟨q7, w8, h⟩ := fx_bd h
        refine ds_callV (idx := 182) (mj := 107) (ci := 9) (na := 2) (mx := 6) (p := 576) (args := [.ref 0, .int (Int32.ofInt x2), .int (Int32.ofInt (-1))]) (rest := []) (al2 := [some (.ref 0), some (.int (Int32.ofInt x2)), some (.int (Int32.ofInt (-1))), none, none, none]) (S2 := (q7.2, δ)) (by decide +kernel) rfl (by decide +kernel) (Or.inl ⟨_, rfl, Or.inr fo_0⟩) rfl rfl rfl rfl rfl rfl (by omega) (fun d' hd' => dx_cls (fe_107 (by omega) (gf_107 rfl rfl rfl w8))) rfl ?_
        refine ds_iconst (n := -1) (p := 577) (by decide +kernel) rfl rfl ?_
        obtain ⟨z9, h⟩ := fx_gd h
        by_cases c10 : ¬ q7.1 = (-1)
        · rw [if_pos c10] at h
          refine ds_icmp_ne_t (off := 43) (t := 620) (by decide +kernel) (by decide +kernel) ((gc_ne rfl rfl z9 (by decide)).mpr c10) ?_
          refine ds_iconst (n := 0) (p := 621) (by decide +kernel) rfl rfl ?_
          have h := Option.some.inj h
          subst h
          exact ds_iret (by decide +kernel) rt_255 (by decide +kernel)
        · rw [if_neg c10] at h
          refine ds_icmp_ne_f (off := 43) (t := 620) (p := 580) (by decide +kernel) (by decide +kernel) rfl (fun q => c10 ((gc_ne rfl rfl z9 (by decide)).mp q)) ?_
          refine ds_aload_n (k := 0) (p := 581) (by decide +kernel) rfl rfl ?_
          refine ds_iload_n (k := 2) (p := 582) (by decide +kernel) rfl rfl ?_
          refine ds_aload_n (k := 1) (p := 583) (by decide +kernel) rfl rfl ?_
          obtain ⟨z11, h⟩ := fx_gd h
          refine ds_gfi (idx := 48) (ci := 10) (j := 0) (p := 586) (by decide +kernel) rfl (by decide +kernel) z11 ?_
          refine ds_iconst (n := 0) (p := 587) (by decide +kernel) rfl rfl ?_
          refine ds_iconst (n := 0) (p := 588) (by decide +kernel) rfl rfl ?_
          obtain ⟨q12, w13, h⟩ := fx_bd h
          refine ds_callV (idx := 178) (mj := 106) (ci := 9) (na := 4) (mx := 7) (p := 591) (args := [.ref 0, .int (Int32.ofInt x2), .int (Int32.ofInt (δ.I x1 0)), .int (Int32.ofInt 0), .int (Int32.ofInt 0)]) (rest := []) (al2 := [some (.ref 0), some (.int (Int32.ofInt x2)), some (.int (Int32.ofInt (δ.I x1 0))), some (.int (Int32.ofInt 0)), some (.int (Int32.ofInt 0)), none, none]) (S2 := (q12.2, δ)) (by decide +kernel) rfl (by decide +kernel) (Or.inl ⟨_, rfl, Or.inr fo_0⟩) rfl rfl rfl rfl rfl rfl (by omega) (fun d' hd' => dx_cls (fe_106 (by omega) (gf_106 rfl rfl rfl rfl rfl w13))) rfl ?_
          refine ds_ldc2 (idx := 206) (p := 594) (x := Int64.ofInt (-1)) (by decide +kernel) rfl (by decide +kernel) ?_
          obtain ⟨z14, h⟩ := fx_gd h
          by_cases c15 : ¬ q12.1 = (-1)
          · rw [if_pos c15] at h
            refine ds_lcmp_ne_t (off := 25) (t := 620) (by decide +kernel) (by decide +kernel) (by decide +kernel) ((gcl_ne rfl rfl z14 (by decide)).mpr c15) ?_
            refine ds_iconst (n := 0) (p := 621) (by decide +kernel) rfl rfl ?_
            have h := Option.some.inj h
            subst h
            exact ds_iret (by decide +kernel) rt_255 (by decide +kernel)
          · rw [if_neg c15] at h
            refine ds_lcmp_ne_f (off := 25) (t := 620) (p := 598) (by decide +kernel) (by decide +kernel) (by decide +kernel) rfl (fun q => c15 ((gcl_ne rfl rfl z14 (by decide)).mp q)) ?_
            refine ds_aload_n (k := 0) (p := 599) (by decide +kernel) rfl rfl ?_
            refine ds_iload_n (k := 2) (p := 600) (by decide +kernel) rfl rfl ?_
            refine ds_iconst (n := 0) (p := 601) (by decide +kernel) rfl rfl ?_
            refine ds_aload_n (k := 1) (p := 602) (by decide +kernel) rfl rfl ?_
            refine ds_gfi (idx := 52) (ci := 10) (j := 1) (p := 605) (by decide +kernel) rfl (by decide +kernel) z11 ?_
            refine ds_iconst (n := 0) (p := 606) (by decide +kernel) rfl rfl ?_
            obtain ⟨q16, w17, h⟩ := fx_bd h
            refine ds_callV (idx := 178) (mj := 106) (ci := 9) (na := 4) (mx := 7) (p := 609) (args := [.ref 0, .int (Int32.ofInt x2), .int (Int32.ofInt 0), .int (Int32.ofInt (δ.I x1 1)), .int (Int32.ofInt 0)]) (rest := []) (al2 := [some (.ref 0), some (.int (Int32.ofInt x2)), some (.int (Int32.ofInt 0)), some (.int (Int32.ofInt (δ.I x1 1))), some (.int (Int32.ofInt 0)), none, none]) (S2 := (q16.2, δ)) (by decide +kernel) rfl (by decide +kernel) (Or.inl ⟨_, rfl, Or.inr fo_0⟩) rfl rfl rfl rfl rfl rfl (by omega) (fun d' hd' => dx_cls (fe_106 (by omega) (gf_106 rfl rfl rfl rfl rfl w17))) rfl ?_
            refine ds_ldc2 (idx := 206) (p := 612) (x := Int64.ofInt (-1)) (by decide +kernel) rfl (by decide +kernel) ?_
            obtain ⟨z18, h⟩ := fx_gd h
            by_cases c19 : ¬ q16.1 = (-1)
            · rw [if_pos c19] at h
              refine ds_lcmp_ne_t (off := 7) (t := 620) (by decide +kernel) (by decide +kernel) (by decide +kernel) ((gcl_ne rfl rfl z18 (by decide)).mpr c19) ?_
              refine ds_iconst (n := 0) (p := 621) (by decide +kernel) rfl rfl ?_
              have h := Option.some.inj h
              subst h
              exact ds_iret (by decide +kernel) rt_255 (by decide +kernel)
            · rw [if_neg c19] at h
              refine ds_lcmp_ne_f (off := 7) (t := 620) (p := 616) (by decide +kernel) (by decide +kernel) (by decide +kernel) rfl (fun q => c19 ((gcl_ne rfl rfl z18 (by decide)).mp q)) ?_
              refine ds_iconst (n := 1) (p := 617) (by decide +kernel) rfl rfl ?_
              refine ds_goto (off := 4) (p := 621) (by decide +kernel) (by decide +kernel) ?_
              have h := Option.some.inj h
              subst h
              exact ds_iret (by decide +kernel) rt_255 (by decide +kernel)
    · rw [if_neg c2] at h
      refine ds_icmp_ge_f (off := 161) (t := 559) (p := 401) (by decide +kernel) (by decide +kernel) rfl (fun q => c2 ((gc_le rfl rfl (by decide) z1).mp q)) ?_
      refine ds_aload_n (k := 1) (p := 402) (by decide +kernel) rfl rfl ?_
      obtain ⟨z20, h⟩ := fx_gd h
      obtain ⟨v21, w22, h⟩ := fx_bd h
      refine ds_gfr (idx := 59) (ci := 10) (j := 5) (p := 405) (by decide +kernel) rfl (by decide +kernel) z20 w22 ?_
      refine ds_iload (k := 6) (p := 407) (by decide +kernel) rfl rfl ?_
      obtain ⟨q23, w24, h⟩ := fx_bd h
      refine ds_callS (idx := 115) (mj := 243) (na := 2) (mx := 7) (p := 410) (args := [.ref v21, .int (Int32.ofInt x6)]) (rest := []) (al2 := [some (.ref v21), some (.int (Int32.ofInt x6)), none, none, none, none, none]) (S2 := q23.2) (by decide +kernel) rfl (by decide +kernel) rfl rfl rfl rfl rfl rfl (by omega) (fun d' hd' => de_243 hz (by omega) w24) rfl ?_
      refine ds_istore (k := 7) (p := 412) (M := 14) (al' := [some (.ref 0), some (.ref x1), some (.int (Int32.ofInt x2)), o3, some (.int (Int32.ofInt x4)), o5, some (.int (Int32.ofInt x6)), some (.int (Int32.ofInt q23.1)), o8, o9, o10, o11, o12, none]) (by decide +kernel) rfl mx_255 rfl rfl ?_
      refine ds_ldc2 (idx := 187) (p := 415) (x := Int64.ofInt (-9223372036854775808)) (by decide +kernel) rfl (by decide +kernel) ?_
      refine ds_lstore (k := 8) (p := 417) (M := 14) (al' := [some (.ref 0), some (.ref x1), some (.int (Int32.ofInt x2)), o3, some (.int (Int32.ofInt x4)), o5, some (.int (Int32.ofInt x6)), some (.int (Int32.ofInt q23.1)), some (.long (Int64.ofInt (-9223372036854775808))), none, o10, o11, o12, none]) (by decide +kernel) rfl mx_255 rfl rfl ?_
      refine ds_iload (k := 7) (p := 419) (by decide +kernel) rfl rfl ?_
      obtain ⟨z25, h⟩ := fx_gd h
      by_cases c26 : ¬ q23.1 = 0
      · rw [if_pos c26] at h
        refine ds_if_ne_t (off := 19) (t := 438) (by decide +kernel) (by decide +kernel) ((gc_ne rfl rfl z25 (by decide)).mpr c26) ?_
        refine ds_aload_n (k := 0) (p := 439) (by decide +kernel) rfl rfl ?_
        refine ds_iload_n (k := 2) (p := 440) (by decide +kernel) rfl rfl ?_
        refine ds_iconst (n := -1) (p := 441) (by decide +kernel) rfl rfl ?_
        refine ds_iload (k := 6) (p := 443) (by decide +kernel) rfl rfl ?_
        obtain ⟨q27, w28, h⟩ := fx_bd h
        refine ds_callV (idx := 163) (mj := 99) (ci := 9) (na := 3) (mx := 12) (p := 446) (args := [.ref 0, .int (Int32.ofInt x2), .int (Int32.ofInt (-1)), .int (Int32.ofInt x6)]) (rest := []) (al2 := [some (.ref 0), some (.int (Int32.ofInt x2)), some (.int (Int32.ofInt (-1))), some (.int (Int32.ofInt x6)), none, none, none, none, none, none, none, none]) (S2 := (q27.2, q23.2.2)) (by decide +kernel) rfl (by decide +kernel) (Or.inl ⟨_, rfl, Or.inr fo_0⟩) rfl rfl rfl rfl rfl rfl (by omega) (fun d' hd' => dx_cls (fe_99 (by omega) (gf_99 rfl rfl rfl rfl w28))) rfl ?_
        refine ds_i2d (p := 447) (by decide +kernel) rfl ?_
        refine ds_iload (k := 7) (p := 449) (by decide +kernel) rfl rfl ?_
        refine ds_i2d (p := 450) (by decide +kernel) rfl ?_
        obtain ⟨z29, h⟩ := fx_gd h
        refine ds_ddiv (p := 451) (by decide +kernel) rfl z29 ?_
        refine ds_dstore (k := 10) (p := 453) (M := 14) (al' := [some (.ref 0), some (.ref x1), some (.int (Int32.ofInt x2)), o3, some (.int (Int32.ofInt x4)), o5, some (.int (Int32.ofInt x6)), some (.int (Int32.ofInt q23.1)), some (.long (Int64.ofInt (-9223372036854775808))), none, some (.double (FP.ddiv (FP.i2d (Int32.ofInt q27.1)) (FP.i2d (Int32.ofInt q23.1)))), none, o12, none]) (by decide +kernel) rfl mx_255 rfl rfl ?_
        refine ds_aload_n (k := 0) (p := 454) (by decide +kernel) rfl rfl ?_
        refine ds_iload_n (k := 2) (p := 455) (by decide +kernel) rfl rfl ?_
        refine ds_iload (k := 6) (p := 457) (by decide +kernel) rfl rfl ?_
        refine ds_iconst (n := 0) (p := 458) (by decide +kernel) rfl rfl ?_
        obtain ⟨q30, w31, h⟩ := fx_bd h
        refine ds_callV (idx := 189) (mj := 108) (ci := 9) (na := 3) (mx := 8) (p := 461) (args := [.ref 0, .int (Int32.ofInt x2), .int (Int32.ofInt x6), .int (Int32.ofInt 0)]) (rest := []) (al2 := [some (.ref 0), some (.int (Int32.ofInt x2)), some (.int (Int32.ofInt x6)), some (.int (Int32.ofInt 0)), none, none, none, none]) (S2 := (q30.2, q23.2.2)) (by decide +kernel) rfl (by decide +kernel) (Or.inl ⟨_, rfl, Or.inr fo_0⟩) rfl rfl rfl rfl rfl rfl (by omega) (fun d' hd' => dx_cls (fe_108 (by omega) (gf_108 rfl rfl rfl rfl w31))) rfl ?_
        refine ds_dload (k := 10) (p := 463) (by decide +kernel) rfl rfl ?_
        refine ds_jdk1 (idx := 192) (p := 466) (c := Int64.ofInt (((FP.ddiv (FP.i2d (Int32.ofInt q27.1)) (FP.i2d (Int32.ofInt q23.1)))).toInt64).toInt) (by decide +kernel) rfl (by decide +kernel) rfl z29 (Int64.ofInt_toInt _).symm ?_
        obtain ⟨z32, h⟩ := fx_gd h
        by_cases c33 : ¬ q30.1 = (((FP.ddiv (FP.i2d (Int32.ofInt q27.1)) (FP.i2d (Int32.ofInt q23.1)))).toInt64).toInt
        · rw [if_pos c33] at h
          refine ds_lcmp_ne_t (off := 84) (t := 551) (by decide +kernel) (by decide +kernel) (by decide +kernel) ((gcl_ne rfl rfl z32 (gs_r2 _)).mpr c33) ?_
          refine ds_iconst (n := 0) (p := 552) (by decide +kernel) rfl rfl ?_
          have h := Option.some.inj h
          subst h
          exact ds_iret (by decide +kernel) rt_255 (by decide +kernel)
        · rw [if_neg c33] at h
          refine ds_lcmp_ne_f (off := 84) (t := 551) (p := 470) (by decide +kernel) (by decide +kernel) (by decide +kernel) rfl (fun q => c33 ((gcl_ne rfl rfl z32 (gs_r2 _)).mp q)) ?_
          refine ds_aload_n (k := 0) (p := 471) (by decide +kernel) rfl rfl ?_
          refine ds_iload_n (k := 2) (p := 472) (by decide +kernel) rfl rfl ?_
          refine ds_iload (k := 6) (p := 474) (by decide +kernel) rfl rfl ?_
          refine ds_iconst (n := 1) (p := 475) (by decide +kernel) rfl rfl ?_
          obtain ⟨q34, w35, h⟩ := fx_bd h
          refine ds_callV (idx := 189) (mj := 108) (ci := 9) (na := 3) (mx := 8) (p := 478) (args := [.ref 0, .int (Int32.ofInt x2), .int (Int32.ofInt x6), .int (Int32.ofInt 1)]) (rest := []) (al2 := [some (.ref 0), some (.int (Int32.ofInt x2)), some (.int (Int32.ofInt x6)), some (.int (Int32.ofInt 1)), none, none, none, none]) (S2 := (q34.2, q23.2.2)) (by decide +kernel) rfl (by decide +kernel) (Or.inl ⟨_, rfl, Or.inr fo_0⟩) rfl rfl rfl rfl rfl rfl (by omega) (fun d' hd' => dx_cls (fe_108 (by omega) (gf_108 rfl rfl rfl rfl w35))) rfl ?_
          refine ds_dload (k := 10) (p := 480) (by decide +kernel) rfl rfl ?_
          obtain ⟨z36, h⟩ := fx_gd h
          refine ds_d2f (p := 481) (by decide +kernel) rfl z36 ?_
          refine ds_jdk2 (idx := 198) (p := 484) (c := Int32.ofInt (((FP.d2f (FP.ddiv (FP.i2d (Int32.ofInt q27.1)) (FP.i2d (Int32.ofInt q23.1))))).toInt32).toInt) (by decide +kernel) rfl (by decide +kernel) rfl z36 (Int32.ofInt_toInt _).symm ?_
          refine ds_i2l (p := 485) (c := Int64.ofInt ((((FP.d2f (FP.ddiv (FP.i2d (Int32.ofInt q27.1)) (FP.i2d (Int32.ofInt q23.1))))).toInt32).toInt)) (by decide +kernel) rfl (ga_i2l rfl (gs_r _)) ?_
          obtain ⟨z37, h⟩ := fx_gd h
          obtain ⟨z38, h⟩ := fx_gd h
          by_cases c39 : ¬ q34.1 = (((FP.d2f (FP.ddiv (FP.i2d (Int32.ofInt q27.1)) (FP.i2d (Int32.ofInt q23.1))))).toInt32).toInt
          · rw [if_pos c39] at h
            refine ds_lcmp_ne_t (off := 65) (t := 551) (by decide +kernel) (by decide +kernel) (by decide +kernel) ((gcl_ne rfl rfl z37 z38).mpr c39) ?_
            refine ds_iconst (n := 0) (p := 552) (by decide +kernel) rfl rfl ?_
            have h := Option.some.inj h
            subst h
            exact ds_iret (by decide +kernel) rt_255 (by decide +kernel)
          · rw [if_neg c39] at h
            refine ds_lcmp_ne_f (off := 65) (t := 551) (p := 489) (by decide +kernel) (by decide +kernel) (by decide +kernel) rfl (fun q => c39 ((gcl_ne rfl rfl z37 z38).mp q)) ?_
            refine ds_aload_n (k := 0) (p := 490) (by decide +kernel) rfl rfl ?_
            refine ds_iload_n (k := 2) (p := 491) (by decide +kernel) rfl rfl ?_
            refine ds_iload (k := 6) (p := 493) (by decide +kernel) rfl rfl ?_
            refine ds_iconst (n := 2) (p := 494) (by decide +kernel) rfl rfl ?_
            obtain ⟨q40, w41, h⟩ := fx_bd h
            refine ds_callV (idx := 189) (mj := 108) (ci := 9) (na := 3) (mx := 8) (p := 497) (args := [.ref 0, .int (Int32.ofInt x2), .int (Int32.ofInt x6), .int (Int32.ofInt 2)]) (rest := []) (al2 := [some (.ref 0), some (.int (Int32.ofInt x2)), some (.int (Int32.ofInt x6)), some (.int (Int32.ofInt 2)), none, none, none, none]) (S2 := (q40.2, q23.2.2)) (by decide +kernel) rfl (by decide +kernel) (Or.inl ⟨_, rfl, Or.inr fo_0⟩) rfl rfl rfl rfl rfl rfl (by omega) (fun d' hd' => dx_cls (fe_108 (by omega) (gf_108 rfl rfl rfl rfl w41))) rfl ?_
            refine ds_dload (k := 10) (p := 499) (by decide +kernel) rfl rfl ?_
            refine ds_dconst (n := 1) (p := 500) (by decide +kernel) rfl rfl ?_
            obtain ⟨z42, h⟩ := fx_gd h
            refine ds_drem (p := 501) (by decide +kernel) rfl z42 ?_
            refine ds_jdk1 (idx := 192) (p := 504) (c := Int64.ofInt (((FP.drem (FP.ddiv (FP.i2d (Int32.ofInt q27.1)) (FP.i2d (Int32.ofInt q23.1))) FP.dconst1)).toInt64).toInt) (by decide +kernel) rfl (by decide +kernel) rfl z42 (Int64.ofInt_toInt _).symm ?_
            obtain ⟨z43, h⟩ := fx_gd h
            by_cases c44 : ¬ q40.1 = (((FP.drem (FP.ddiv (FP.i2d (Int32.ofInt q27.1)) (FP.i2d (Int32.ofInt q23.1))) FP.dconst1)).toInt64).toInt
            · rw [if_pos c44] at h
              refine ds_lcmp_ne_t (off := 46) (t := 551) (by decide +kernel) (by decide +kernel) (by decide +kernel) ((gcl_ne rfl rfl z43 (gs_r2 _)).mpr c44) ?_
              refine ds_iconst (n := 0) (p := 552) (by decide +kernel) rfl rfl ?_
              have h := Option.some.inj h
              subst h
              exact ds_iret (by decide +kernel) rt_255 (by decide +kernel)
            · rw [if_neg c44] at h
              refine ds_lcmp_ne_f (off := 46) (t := 551) (p := 508) (by decide +kernel) (by decide +kernel) (by decide +kernel) rfl (fun q => c44 ((gcl_ne rfl rfl z43 (gs_r2 _)).mp q)) ?_
              refine ds_aload_n (k := 0) (p := 509) (by decide +kernel) rfl rfl ?_
              refine ds_iload_n (k := 2) (p := 510) (by decide +kernel) rfl rfl ?_
              refine ds_iload (k := 6) (p := 512) (by decide +kernel) rfl rfl ?_
              refine ds_iconst (n := 3) (p := 513) (by decide +kernel) rfl rfl ?_
              obtain ⟨q45, w46, h⟩ := fx_bd h
              refine ds_callV (idx := 189) (mj := 108) (ci := 9) (na := 3) (mx := 8) (p := 516) (args := [.ref 0, .int (Int32.ofInt x2), .int (Int32.ofInt x6), .int (Int32.ofInt 3)]) (rest := []) (al2 := [some (.ref 0), some (.int (Int32.ofInt x2)), some (.int (Int32.ofInt x6)), some (.int (Int32.ofInt 3)), none, none, none, none]) (S2 := (q45.2, q23.2.2)) (by decide +kernel) rfl (by decide +kernel) (Or.inl ⟨_, rfl, Or.inr fo_0⟩) rfl rfl rfl rfl rfl rfl (by omega) (fun d' hd' => dx_cls (fe_108 (by omega) (gf_108 rfl rfl rfl rfl w46))) rfl ?_
              refine ds_ldc2 (idx := 204) (p := 519) (x := Int64.ofInt 2) (by decide +kernel) rfl (by decide +kernel) ?_
              refine ds_aload_n (k := 0) (p := 520) (by decide +kernel) rfl rfl ?_
              refine ds_iload_n (k := 2) (p := 521) (by decide +kernel) rfl rfl ?_
              refine ds_iconst (n := -1) (p := 522) (by decide +kernel) rfl rfl ?_
              refine ds_iload (k := 6) (p := 524) (by decide +kernel) rfl rfl ?_
              obtain ⟨q47, w48, h⟩ := fx_bd h
              refine ds_callV (idx := 163) (mj := 99) (ci := 9) (na := 3) (mx := 12) (p := 527) (args := [.ref 0, .int (Int32.ofInt x2), .int (Int32.ofInt (-1)), .int (Int32.ofInt x6)]) (rest := [.long (Int64.ofInt 2), .long (Int64.ofInt q45.1)]) (al2 := [some (.ref 0), some (.int (Int32.ofInt x2)), some (.int (Int32.ofInt (-1))), some (.int (Int32.ofInt x6)), none, none, none, none, none, none, none, none]) (S2 := (q47.2, q23.2.2)) (by decide +kernel) rfl (by decide +kernel) (Or.inl ⟨_, rfl, Or.inr fo_0⟩) rfl rfl rfl rfl rfl rfl (by omega) (fun d' hd' => dx_cls (fe_99 (by omega) (gf_99 rfl rfl rfl rfl w48))) rfl ?_
              obtain ⟨z49, h⟩ := fx_gd h
              refine ds_i2l (p := 528) (c := Int64.ofInt q47.1) (by decide +kernel) rfl (ga_i2l rfl z49) ?_
              refine ds_lmul (p := 529) (c := Int64.ofInt (2 * q47.1)) (by decide +kernel) rfl (gal_mul rfl rfl) ?_
              refine ds_iload (k := 7) (p := 531) (by decide +kernel) rfl rfl ?_
              refine ds_i2l (p := 532) (c := Int64.ofInt q23.1) (by decide +kernel) rfl (ga_i2l rfl z25) ?_
              obtain ⟨z50, h⟩ := fx_gd h
              refine ds_ldiv (p := 533) (c := Int64.ofInt ((2 * q47.1) / q23.1)) (by decide +kernel) rfl (gcl_nz rfl (x := (2 * q47.1)) z50) (gal_div rfl rfl z50) ?_
              obtain ⟨z51, h⟩ := fx_gd h
              obtain ⟨z52, h⟩ := fx_gd h
              by_cases c53 : ¬ q45.1 = ((2 * q47.1) / q23.1)
              · rw [if_pos c53] at h
                refine ds_lcmp_ne_t (off := 17) (t := 551) (by decide +kernel) (by decide +kernel) (by decide +kernel) ((gcl_ne rfl rfl z51 z52).mpr c53) ?_
                refine ds_iconst (n := 0) (p := 552) (by decide +kernel) rfl rfl ?_
                have h := Option.some.inj h
                subst h
                exact ds_iret (by decide +kernel) rt_255 (by decide +kernel)
              · rw [if_neg c53] at h
                refine ds_lcmp_ne_f (off := 17) (t := 551) (p := 537) (by decide +kernel) (by decide +kernel) (by decide +kernel) rfl (fun q => c53 ((gcl_ne rfl rfl z51 z52).mp q)) ?_
                refine ds_aload_n (k := 0) (p := 538) (by decide +kernel) rfl rfl ?_
                refine ds_iload_n (k := 2) (p := 539) (by decide +kernel) rfl rfl ?_
                refine ds_iload (k := 6) (p := 541) (by decide +kernel) rfl rfl ?_
                refine ds_iconst (n := 4) (p := 542) (by decide +kernel) rfl rfl ?_
                obtain ⟨q54, w55, h⟩ := fx_bd h
                refine ds_callV (idx := 189) (mj := 108) (ci := 9) (na := 3) (mx := 8) (p := 545) (args := [.ref 0, .int (Int32.ofInt x2), .int (Int32.ofInt x6), .int (Int32.ofInt 4)]) (rest := []) (al2 := [some (.ref 0), some (.int (Int32.ofInt x2)), some (.int (Int32.ofInt x6)), some (.int (Int32.ofInt 4)), none, none, none, none]) (S2 := (q54.2, q23.2.2)) (by decide +kernel) rfl (by decide +kernel) (Or.inl ⟨_, rfl, Or.inr fo_0⟩) rfl rfl rfl rfl rfl rfl (by omega) (fun d' hd' => dx_cls (fe_108 (by omega) (gf_108 rfl rfl rfl rfl w55))) rfl ?_
                refine ds_lload (k := 8) (p := 547) (by decide +kernel) rfl rfl ?_
                obtain ⟨z56, h⟩ := fx_gd h
                by_cases c57 : q54.1 = (-9223372036854775808)
                · rw [if_pos c57] at h
                  refine ds_lcmp_eq_t (off := 5) (t := 553) (by decide +kernel) (by decide +kernel) (by decide +kernel) ((gcl_eq rfl rfl z56 (by decide)).mpr c57) ?_
                  exact de_255_553 hz hd ih _ _ _ _ _ _ _ _ _ _ _ _ _ _ h
                · rw [if_neg c57] at h
                  refine ds_lcmp_eq_f (off := 5) (t := 553) (p := 551) (by decide +kernel) (by decide +kernel) (by decide +kernel) rfl (fun q => c57 ((gcl_eq rfl rfl z56 (by decide)).mp q)) ?_
                  refine ds_iconst (n := 0) (p := 552) (by decide +kernel) rfl rfl ?_
                  have h := Option.some.inj h
                  subst h
                  exact ds_iret (by decide +kernel) rt_255 (by decide +kernel)
      · rw [if_neg c26] at h
        refine ds_if_ne_f (off := 19) (t := 438) (p := 422) (by decide +kernel) (by decide +kernel) rfl (fun q => c26 ((gc_ne rfl rfl z25 (by decide)).mp q)) ?_
        refine ds_aload_n (k := 0) (p := 423) (by decide +kernel) rfl rfl ?_
        refine ds_iload_n (k := 2) (p := 424) (by decide +kernel) rfl rfl ?_
        refine ds_iload (k := 6) (p := 426) (by decide +kernel) rfl rfl ?_
        refine ds_iconst (n := 0) (p := 427) (by decide +kernel) rfl rfl ?_
        obtain ⟨q58, w59, h⟩ := fx_bd h
        refine ds_callV (idx := 189) (mj := 108) (ci := 9) (na := 3) (mx := 8) (p := 430) (args := [.ref 0, .int (Int32.ofInt x2), .int (Int32.ofInt x6), .int (Int32.ofInt 0)]) (rest := []) (al2 := [some (.ref 0), some (.int (Int32.ofInt x2)), some (.int (Int32.ofInt x6)), some (.int (Int32.ofInt 0)), none, none, none, none]) (S2 := (q58.2, q23.2.2)) (by decide +kernel) rfl (by decide +kernel) (Or.inl ⟨_, rfl, Or.inr fo_0⟩) rfl rfl rfl rfl rfl rfl (by omega) (fun d' hd' => dx_cls (fe_108 (by omega) (gf_108 rfl rfl rfl rfl w59))) rfl ?_
        refine ds_lload (k := 8) (p := 432) (by decide +kernel) rfl rfl ?_
        obtain ⟨z60, h⟩ := fx_gd h
        by_cases c61 : q58.1 = (-9223372036854775808)
        · rw [if_pos c61] at h
          refine ds_lcmp_eq_t (off := 120) (t := 553) (by decide +kernel) (by decide +kernel) (by decide +kernel) ((gcl_eq rfl rfl z60 (by decide)).mpr c61) ?_
          exact de_255_553 hz hd ih _ _ _ _ _ _ _ _ _ _ _ _ _ _ h
        · rw [if_neg c61] at h
          refine ds_lcmp_eq_f (off := 120) (t := 553) (p := 436) (by decide +kernel) (by decide +kernel) (by decide +kernel) rfl (fun q => c61 ((gcl_eq rfl rfl z60 (by decide)).mp q)) ?_
          refine ds_iconst (n := 0) (p := 437) (by decide +kernel) rfl rfl ?_
          have h := Option.some.inj h
          subst h
          exact ds_iret (by decide +kernel) rt_255 (by decide +kernel)
def dm_255_385 (L : Nat) (xs : Nat → Int32) (k_192 : Nat → Int → Int → Nat → Int → gx_S → dS → Option (Int × DS)) (x1 : Nat) (x2 : Int) (x4 : Int) (x5 : Nat) (x6 : Int) (s : gx_S) (δ : dS) : Option (Int × DS) :=
  k_192 x1 x2 x4 x5 (x6 + 1) s δ
theorem de_255_385 {z : iv_Z} {L : Nat} {xs : Nat → Int32} (hz : dZ z L xs) {d : Nat} (hd : 102 ≤ d) {k_192 : Nat → Int → Int → Nat → Int → gx_S → dS → Option (Int × DS)} (hk_192 : ∀ (x1 : Nat) (x2 : Int) (x4 : Int) (x5 : Nat) (x6 : Int) (o3 : Option Value) (o7 : Option Value) (o8 : Option Value) (o9 : Option Value) (o10 : Option Value) (o11 : Option Value) (o12 : Option Value) (s : gx_S) (δ : dS) (q : Int × DS), k_192 x1 x2 x4 x5 x6 s δ = some q → dE z 255 d 192 [some (.ref 0), some (.ref x1), some (.int (Int32.ofInt x2)), o3, some (.int (Int32.ofInt x4)), some (.ref x5), some (.int (Int32.ofInt x6)), o7, o8, o9, o10, o11, o12, none] [] (s, δ) (some (.int (Int32.ofInt q.1))) q.2) (x1 : Nat) (x2 : Int) (x4 : Int) (x5 : Nat) (x6 : Int) (o3 : Option Value) (o7 : Option Value) (o8 : Option Value) (o9 : Option Value) (o10 : Option Value) (o11 : Option Value) (o12 : Option Value) (s : gx_S) (δ : dS) (q : Int × DS) (h : dm_255_385 L xs k_192  x1 x2 x4 x5 x6 s δ = some q) : dE z 255 d 385 [some (.ref 0), some (.ref x1), some (.int (Int32.ofInt x2)), o3, some (.int (Int32.ofInt x4)), some (.ref x5), some (.int (Int32.ofInt x6)), o7, o8, o9, o10, o11, o12, none] [] (s, δ) (some (.int (Int32.ofInt q.1))) q.2 := by
  unfold dm_255_385 at h
  refine ds_iinc (k := 6) (n := 1) (p := 388) (M := 14) (y := Int32.ofInt (x6 + 1)) (al' := [some (.ref 0), some (.ref x1), some (.int (Int32.ofInt x2)), o3, some (.int (Int32.ofInt x4)), some (.ref x5), some (.int (Int32.ofInt (x6 + 1))), o7, o8, o9, o10, o11, o12, none]) (by decide +kernel) rfl rfl mx_255 rfl rfl (ga_add rfl rfl) rfl ?_
  refine ds_goto (off := -196) (p := 192) (by decide +kernel) (by decide +kernel) ?_
  exact hk_192 _ _ _ _ _ _ _ _ _ _ _ _ _ _ _ h
def dm_255_192 (L : Nat) (xs : Nat → Int32) : Nat → Nat → Int → Int → Nat → Int → gx_S → dS → Option (Int × DS)
  | 0, _, _, _, _, _, _, _ => none
  | n + 1, x1, x2, x4, x5, x6, s, δ =>
    if (-2147483648 ≤ x6 ∧ x6 ≤ 2147483647) then (
    if (-2147483648 ≤ x4 ∧ x4 ≤ 2147483647) then (
    if x4 ≤ x6 then (
      dm_255_394 L xs 100000 x1 x2 x4 0 s δ) else (
      (gm_107 x2 x6 s).bind fun q4 =>
      if 0 ≤ q4.1 ∧ q4.1 ≤ 2147483647 then (
      if dO δ x1 10 then (
      if (-2147483648 ≤ q4.1 ∧ q4.1 ≤ 2147483647) then (
      if q4.1 < 0 then (
        some (0, q4.2, δ)) else (
        if (-2147483648 ≤ (q4.1 % 12) ∧ (q4.1 % 12) ≤ 2147483647) then (
        if (-2147483648 ≤ (δ.I x1 1) ∧ (δ.I x1 1) ≤ 2147483647) then (
        if (δ.I x1 1) ≤ (q4.1 % 12) then (
          some (0, q4.2, δ)) else (
          if (-2147483648 ≤ (q4.1 / 12) ∧ (q4.1 / 12) ≤ 2147483647) then (
          if (-2147483648 ≤ (δ.I x1 0) ∧ (δ.I x1 0) ≤ 2147483647) then (
          if (δ.I x1 0) ≤ (q4.1 / 12) then (
            some (0, q4.2, δ)) else (
            if dA δ 2 x5 then (
            if dI δ x5 (((q4.1 / 12) * (δ.I x1 1)) + (q4.1 % 12)) then (
            if (-2147483648 ≤ (δ.I x5 (((((q4.1 / 12) * (δ.I x1 1)) + (q4.1 % 12))).toNat)) ∧ (δ.I x5 (((((q4.1 / 12) * (δ.I x1 1)) + (q4.1 % 12))).toNat)) ≤ 2147483647) then (
            if (δ.I x5 (((((q4.1 / 12) * (δ.I x1 1)) + (q4.1 % 12))).toNat)) = 0 then (
              (some (δ.w x5 (((((q4.1 / 12) * (δ.I x1 1)) + (q4.1 % 12))).toNat) (gn2 1))).bind fun t20 =>
              if ¬ x6 = 0 then (
                (gm_107 x2 (x6 - 1) q4.2).bind fun q23 =>
                if 0 ≤ q23.1 ∧ q23.1 ≤ 2147483647 then (
                (gm_106 x2 (q23.1 / 12) (q23.1 % 12) 0 q23.2).bind fun q26 =>
                (gm_106 x2 (q4.1 / 12) (q4.1 % 12) 1 q26.2).bind fun q28 =>
                (gm_106 x2 (q4.1 / 12) (q4.1 % 12) 0 q28.2).bind fun q30 =>
                (gm_106 x2 (q23.1 / 12) (q23.1 % 12) 1 q30.2).bind fun q32 =>
                if (-9223372036854775808 ≤ (q26.1 * q28.1) ∧ (q26.1 * q28.1) ≤ 9223372036854775807) then (
                if (-9223372036854775808 ≤ (q30.1 * q32.1) ∧ (q30.1 * q32.1) ≤ 9223372036854775807) then (
                if (q26.1 * q28.1) < (q30.1 * q32.1) then (
                  some (0, q32.2, t20)) else (
                  if ¬ (q26.1 * q28.1) = (q30.1 * q32.1) then (
                    dm_255_385 L xs (dm_255_192 L xs n) x1 x2 x4 x5 x6 q32.2 t20) else (
                    if (-2147483648 ≤ q23.1 ∧ q23.1 ≤ 2147483647) then (
                    if q23.1 ≤ q4.1 then (
                      dm_255_385 L xs (dm_255_192 L xs n) x1 x2 x4 x5 x6 q32.2 t20) else (
                      some (0, q32.2, t20))) else none))) else none) else none) else none) else (
                dm_255_385 L xs (dm_255_192 L xs n) x1 x2 x4 x5 x6 q4.2 t20)) else (
              some (0, q4.2, δ))) else none) else none) else none)) else none) else none)) else none) else none)) else none) else none) else none)) else none) else none
theorem de_255_192 {z : iv_Z} {L : Nat} {xs : Nat → Int32} (hz : dZ z L xs) {d : Nat} (hd : 102 ≤ d) : ∀ (n : Nat) (x1 : Nat) (x2 : Int) (x4 : Int) (x5 : Nat) (x6 : Int) (o3 : Option Value) (o7 : Option Value) (o8 : Option Value) (o9 : Option Value) (o10 : Option Value) (o11 : Option Value) (o12 : Option Value) (s : gx_S) (δ : dS) (q : Int × DS), dm_255_192 L xs n x1 x2 x4 x5 x6 s δ = some q → dE z 255 d 192 [some (.ref 0), some (.ref x1), some (.int (Int32.ofInt x2)), o3, some (.int (Int32.ofInt x4)), some (.ref x5), some (.int (Int32.ofInt x6)), o7, o8, o9, o10, o11, o12, none] [] (s, δ) (some (.int (Int32.ofInt q.1))) q.2 := by
  intro n
  induction n with
  | zero =>
    intro x1 x2 x4 x5 x6 o3 o7 o8 o9 o10 o11 o12 s δ q h
    rw [dm_255_192] at h
    exact fx_no h
  | succ n ih =>
    intro x1 x2 x4 x5 x6 o3 o7 o8 o9 o10 o11 o12 s δ q h
    rw [dm_255_192] at h
    refine ds_iload (k := 6) (p := 194) (by decide +kernel) rfl rfl ?_
    refine ds_iload (k := 4) (p := 196) (by decide +kernel) rfl rfl ?_
    obtain ⟨z1, h⟩ := fx_gd h
    obtain ⟨z2, h⟩ := fx_gd h
    by_cases c3 : x4 ≤ x6
    · rw [if_pos c3] at h
      refine ds_icmp_ge_t (off := 195) (t := 391) (by decide +kernel) (by decide +kernel) ((gc_le rfl rfl z2 z1).mpr c3) ?_
      refine ds_iconst (n := 0) (p := 392) (by decide +kernel) rfl rfl ?_
      refine ds_istore (k := 6) (p := 394) (M := 14) (al' := [some (.ref 0), some (.ref x1), some (.int (Int32.ofInt x2)), o3, some (.int (Int32.ofInt x4)), some (.ref x5), some (.int (Int32.ofInt 0)), o7, o8, o9, o10, o11, o12, none]) (by decide +kernel) rfl mx_255 rfl rfl ?_
      exact de_255_394 hz hd 100000 _ _ _ _ _ _ _ _ _ _ _ _ _ _ _ h
    · rw [if_neg c3] at h
      refine ds_icmp_ge_f (off := 195) (t := 391) (p := 199) (by decide +kernel) (by decide +kernel) rfl (fun q => c3 ((gc_le rfl rfl z2 z1).mp q)) ?_
      refine ds_aload_n (k := 0) (p := 200) (by decide +kernel) rfl rfl ?_
      refine ds_iload_n (k := 2) (p := 201) (by decide +kernel) rfl rfl ?_
      refine ds_iload (k := 6) (p := 203) (by decide +kernel) rfl rfl ?_
      obtain ⟨q4, w5, h⟩ := fx_bd h
      refine ds_callV (idx := 182) (mj := 107) (ci := 9) (na := 2) (mx := 6) (p := 206) (args := [.ref 0, .int (Int32.ofInt x2), .int (Int32.ofInt x6)]) (rest := []) (al2 := [some (.ref 0), some (.int (Int32.ofInt x2)), some (.int (Int32.ofInt x6)), none, none, none]) (S2 := (q4.2, δ)) (by decide +kernel) rfl (by decide +kernel) (Or.inl ⟨_, rfl, Or.inr fo_0⟩) rfl rfl rfl rfl rfl rfl (by omega) (fun d' hd' => dx_cls (fe_107 (by omega) (gf_107 rfl rfl rfl w5))) rfl ?_
      refine ds_istore (k := 7) (p := 208) (M := 14) (al' := [some (.ref 0), some (.ref x1), some (.int (Int32.ofInt x2)), o3, some (.int (Int32.ofInt x4)), some (.ref x5), some (.int (Int32.ofInt x6)), some (.int (Int32.ofInt q4.1)), o8, o9, o10, o11, o12, none]) (by decide +kernel) rfl mx_255 rfl rfl ?_
      refine ds_iload (k := 7) (p := 210) (by decide +kernel) rfl rfl ?_
      refine ds_bipush (n := 12) (p := 212) (by decide +kernel) rfl dkb_12 ?_
      obtain ⟨z6, h⟩ := fx_gd h
      refine ds_idiv (p := 213) (c := Int32.ofInt (q4.1 / 12)) (by decide +kernel) rfl (gc_nz rfl (x := q4.1) ⟨z6.1, z6.2, by decide, by decide⟩) (ga_div rfl rfl ⟨z6.1, z6.2, by decide, by decide⟩) ?_
      refine ds_aload_n (k := 1) (p := 214) (by decide +kernel) rfl rfl ?_
      obtain ⟨z7, h⟩ := fx_gd h
      refine ds_gfi (idx := 52) (ci := 10) (j := 1) (p := 217) (by decide +kernel) rfl (by decide +kernel) z7 ?_
      refine ds_imul (p := 218) (c := Int32.ofInt ((q4.1 / 12) * (δ.I x1 1))) (by decide +kernel) rfl (ga_mul rfl rfl) ?_
      refine ds_iload (k := 7) (p := 220) (by decide +kernel) rfl rfl ?_
      refine ds_bipush (n := 12) (p := 222) (by decide +kernel) rfl dkb_12 ?_
      refine ds_irem (p := 223) (c := Int32.ofInt (q4.1 % 12)) (by decide +kernel) rfl (gc_nz rfl (x := q4.1) ⟨z6.1, z6.2, by decide, by decide⟩) (ga_rem rfl rfl ⟨z6.1, z6.2, by decide, by decide⟩) ?_
      refine ds_iadd (p := 224) (c := Int32.ofInt (((q4.1 / 12) * (δ.I x1 1)) + (q4.1 % 12))) (by decide +kernel) rfl (ga_add rfl rfl) ?_
      refine ds_istore (k := 8) (p := 226) (M := 14) (al' := [some (.ref 0), some (.ref x1), some (.int (Int32.ofInt x2)), o3, some (.int (Int32.ofInt x4)), some (.ref x5), some (.int (Int32.ofInt x6)), some (.int (Int32.ofInt q4.1)), some (.int (Int32.ofInt (((q4.1 / 12) * (δ.I x1 1)) + (q4.1 % 12)))), o9, o10, o11, o12, none]) (by decide +kernel) rfl mx_255 rfl rfl ?_
      refine ds_iload (k := 7) (p := 228) (by decide +kernel) rfl rfl ?_
      obtain ⟨z8, h⟩ := fx_gd h
      by_cases c9 : q4.1 < 0
      · rw [if_pos c9] at h
        refine ds_if_lt_t (off := 35) (t := 263) (by decide +kernel) (by decide +kernel) ((gc_lt rfl rfl z8 (by decide)).mpr c9) ?_
        refine ds_iconst (n := 0) (p := 264) (by decide +kernel) rfl rfl ?_
        have h := Option.some.inj h
        subst h
        exact ds_iret (by decide +kernel) rt_255 (by decide +kernel)
      · rw [if_neg c9] at h
        refine ds_if_lt_f (off := 35) (t := 263) (p := 231) (by decide +kernel) (by decide +kernel) rfl (fun q => c9 ((gc_lt rfl rfl z8 (by decide)).mp q)) ?_
        refine ds_iload (k := 7) (p := 233) (by decide +kernel) rfl rfl ?_
        refine ds_bipush (n := 12) (p := 235) (by decide +kernel) rfl dkb_12 ?_
        refine ds_irem (p := 236) (c := Int32.ofInt (q4.1 % 12)) (by decide +kernel) rfl (gc_nz rfl (x := q4.1) ⟨z6.1, z6.2, by decide, by decide⟩) (ga_rem rfl rfl ⟨z6.1, z6.2, by decide, by decide⟩) ?_
        refine ds_aload_n (k := 1) (p := 237) (by decide +kernel) rfl rfl ?_
        refine ds_gfi (idx := 52) (ci := 10) (j := 1) (p := 240) (by decide +kernel) rfl (by decide +kernel) z7 ?_
        obtain ⟨z10, h⟩ := fx_gd h
        obtain ⟨z11, h⟩ := fx_gd h
        by_cases c12 : (δ.I x1 1) ≤ (q4.1 % 12)
        · rw [if_pos c12] at h
          refine ds_icmp_ge_t (off := 23) (t := 263) (by decide +kernel) (by decide +kernel) ((gc_le rfl rfl z11 z10).mpr c12) ?_
          refine ds_iconst (n := 0) (p := 264) (by decide +kernel) rfl rfl ?_
          have h := Option.some.inj h
          subst h
          exact ds_iret (by decide +kernel) rt_255 (by decide +kernel)
        · rw [if_neg c12] at h
          refine ds_icmp_ge_f (off := 23) (t := 263) (p := 243) (by decide +kernel) (by decide +kernel) rfl (fun q => c12 ((gc_le rfl rfl z11 z10).mp q)) ?_
          refine ds_iload (k := 7) (p := 245) (by decide +kernel) rfl rfl ?_
          refine ds_bipush (n := 12) (p := 247) (by decide +kernel) rfl dkb_12 ?_
          refine ds_idiv (p := 248) (c := Int32.ofInt (q4.1 / 12)) (by decide +kernel) rfl (gc_nz rfl (x := q4.1) ⟨z6.1, z6.2, by decide, by decide⟩) (ga_div rfl rfl ⟨z6.1, z6.2, by decide, by decide⟩) ?_
          refine ds_aload_n (k := 1) (p := 249) (by decide +kernel) rfl rfl ?_
          refine ds_gfi (idx := 48) (ci := 10) (j := 0) (p := 252) (by decide +kernel) rfl (by decide +kernel) z7 ?_
          obtain ⟨z13, h⟩ := fx_gd h
          obtain ⟨z14, h⟩ := fx_gd h
          by_cases c15 : (δ.I x1 0) ≤ (q4.1 / 12)
          · rw [if_pos c15] at h
            refine ds_icmp_ge_t (off := 11) (t := 263) (by decide +kernel) (by decide +kernel) ((gc_le rfl rfl z14 z13).mpr c15) ?_
            refine ds_iconst (n := 0) (p := 264) (by decide +kernel) rfl rfl ?_
            have h := Option.some.inj h
            subst h
            exact ds_iret (by decide +kernel) rt_255 (by decide +kernel)
          · rw [if_neg c15] at h
            refine ds_icmp_ge_f (off := 11) (t := 263) (p := 255) (by decide +kernel) (by decide +kernel) rfl (fun q => c15 ((gc_le rfl rfl z14 z13).mp q)) ?_
            refine ds_aload (k := 5) (p := 257) (by decide +kernel) rfl rfl ?_
            refine ds_iload (k := 8) (p := 259) (by decide +kernel) rfl rfl ?_
            obtain ⟨z16, h⟩ := fx_gd h
            obtain ⟨z17, h⟩ := fx_gd h
            refine ds_baload2 (p := 260) (by decide +kernel) rfl z16 z17 ?_
            obtain ⟨z18, h⟩ := fx_gd h
            by_cases c19 : (δ.I x5 (((((q4.1 / 12) * (δ.I x1 1)) + (q4.1 % 12))).toNat)) = 0
            · rw [if_pos c19] at h
              refine ds_if_eq_t (off := 5) (t := 265) (by decide +kernel) (by decide +kernel) ((gc_eq rfl rfl z18 (by decide)).mpr c19) ?_
              refine ds_aload (k := 5) (p := 267) (by decide +kernel) rfl rfl ?_
              refine ds_iload (k := 8) (p := 269) (by decide +kernel) rfl rfl ?_
              refine ds_iconst (n := 1) (p := 270) (by decide +kernel) rfl rfl ?_
              obtain ⟨t20, w21, h⟩ := fx_bd h
              refine ds_bastore2 (p := 271) (by decide +kernel) rfl z16 z17 ?_
              rw [Option.some.inj w21]
              refine ds_iload (k := 6) (p := 273) (by decide +kernel) rfl rfl ?_
              by_cases c22 : ¬ x6 = 0
              · rw [if_pos c22] at h
                refine ds_if_ne_t (off := 6) (t := 279) (by decide +kernel) (by decide +kernel) ((gc_ne rfl rfl z1 (by decide)).mpr c22) ?_
                refine ds_aload_n (k := 0) (p := 280) (by decide +kernel) rfl rfl ?_
                refine ds_iload_n (k := 2) (p := 281) (by decide +kernel) rfl rfl ?_
                refine ds_iload (k := 6) (p := 283) (by decide +kernel) rfl rfl ?_
                refine ds_iconst (n := 1) (p := 284) (by decide +kernel) rfl rfl ?_
                refine ds_isub (p := 285) (c := Int32.ofInt (x6 - 1)) (by decide +kernel) rfl (ga_sub rfl rfl) ?_
                obtain ⟨q23, w24, h⟩ := fx_bd h
                refine ds_callV (idx := 182) (mj := 107) (ci := 9) (na := 2) (mx := 6) (p := 288) (args := [.ref 0, .int (Int32.ofInt x2), .int (Int32.ofInt (x6 - 1))]) (rest := []) (al2 := [some (.ref 0), some (.int (Int32.ofInt x2)), some (.int (Int32.ofInt (x6 - 1))), none, none, none]) (S2 := (q23.2, t20)) (by decide +kernel) rfl (by decide +kernel) (Or.inl ⟨_, rfl, Or.inr fo_0⟩) rfl rfl rfl rfl rfl rfl (by omega) (fun d' hd' => dx_cls (fe_107 (by omega) (gf_107 rfl rfl rfl w24))) rfl ?_
                refine ds_istore (k := 9) (p := 290) (M := 14) (al' := [some (.ref 0), some (.ref x1), some (.int (Int32.ofInt x2)), o3, some (.int (Int32.ofInt x4)), some (.ref x5), some (.int (Int32.ofInt x6)), some (.int (Int32.ofInt q4.1)), some (.int (Int32.ofInt (((q4.1 / 12) * (δ.I x1 1)) + (q4.1 % 12)))), some (.int (Int32.ofInt q23.1)), o10, o11, o12, none]) (by decide +kernel) rfl mx_255 rfl rfl ?_
                refine ds_aload_n (k := 0) (p := 291) (by decide +kernel) rfl rfl ?_
                refine ds_iload_n (k := 2) (p := 292) (by decide +kernel) rfl rfl ?_
                refine ds_iload (k := 9) (p := 294) (by decide +kernel) rfl rfl ?_
                refine ds_bipush (n := 12) (p := 296) (by decide +kernel) rfl dkb_12 ?_
                obtain ⟨z25, h⟩ := fx_gd h
                refine ds_idiv (p := 297) (c := Int32.ofInt (q23.1 / 12)) (by decide +kernel) rfl (gc_nz rfl (x := q23.1) ⟨z25.1, z25.2, by decide, by decide⟩) (ga_div rfl rfl ⟨z25.1, z25.2, by decide, by decide⟩) ?_
                refine ds_iload (k := 9) (p := 299) (by decide +kernel) rfl rfl ?_
                refine ds_bipush (n := 12) (p := 301) (by decide +kernel) rfl dkb_12 ?_
                refine ds_irem (p := 302) (c := Int32.ofInt (q23.1 % 12)) (by decide +kernel) rfl (gc_nz rfl (x := q23.1) ⟨z25.1, z25.2, by decide, by decide⟩) (ga_rem rfl rfl ⟨z25.1, z25.2, by decide, by decide⟩) ?_
                refine ds_iconst (n := 0) (p := 303) (by decide +kernel) rfl rfl ?_
                obtain ⟨q26, w27, h⟩ := fx_bd h
                refine ds_callV (idx := 178) (mj := 106) (ci := 9) (na := 4) (mx := 7) (p := 306) (args := [.ref 0, .int (Int32.ofInt x2), .int (Int32.ofInt (q23.1 / 12)), .int (Int32.ofInt (q23.1 % 12)), .int (Int32.ofInt 0)]) (rest := []) (al2 := [some (.ref 0), some (.int (Int32.ofInt x2)), some (.int (Int32.ofInt (q23.1 / 12))), some (.int (Int32.ofInt (q23.1 % 12))), some (.int (Int32.ofInt 0)), none, none]) (S2 := (q26.2, t20)) (by decide +kernel) rfl (by decide +kernel) (Or.inl ⟨_, rfl, Or.inr fo_0⟩) rfl rfl rfl rfl rfl rfl (by omega) (fun d' hd' => dx_cls (fe_106 (by omega) (gf_106 rfl rfl rfl rfl rfl w27))) rfl ?_
                refine ds_aload_n (k := 0) (p := 307) (by decide +kernel) rfl rfl ?_
                refine ds_iload_n (k := 2) (p := 308) (by decide +kernel) rfl rfl ?_
                refine ds_iload (k := 7) (p := 310) (by decide +kernel) rfl rfl ?_
                refine ds_bipush (n := 12) (p := 312) (by decide +kernel) rfl dkb_12 ?_
                refine ds_idiv (p := 313) (c := Int32.ofInt (q4.1 / 12)) (by decide +kernel) rfl (gc_nz rfl (x := q4.1) ⟨z6.1, z6.2, by decide, by decide⟩) (ga_div rfl rfl ⟨z6.1, z6.2, by decide, by decide⟩) ?_
                refine ds_iload (k := 7) (p := 315) (by decide +kernel) rfl rfl ?_
                refine ds_bipush (n := 12) (p := 317) (by decide +kernel) rfl dkb_12 ?_
                refine ds_irem (p := 318) (c := Int32.ofInt (q4.1 % 12)) (by decide +kernel) rfl (gc_nz rfl (x := q4.1) ⟨z6.1, z6.2, by decide, by decide⟩) (ga_rem rfl rfl ⟨z6.1, z6.2, by decide, by decide⟩) ?_
                refine ds_iconst (n := 1) (p := 319) (by decide +kernel) rfl rfl ?_
                obtain ⟨q28, w29, h⟩ := fx_bd h
                refine ds_callV (idx := 178) (mj := 106) (ci := 9) (na := 4) (mx := 7) (p := 322) (args := [.ref 0, .int (Int32.ofInt x2), .int (Int32.ofInt (q4.1 / 12)), .int (Int32.ofInt (q4.1 % 12)), .int (Int32.ofInt 1)]) (rest := [.long (Int64.ofInt q26.1)]) (al2 := [some (.ref 0), some (.int (Int32.ofInt x2)), some (.int (Int32.ofInt (q4.1 / 12))), some (.int (Int32.ofInt (q4.1 % 12))), some (.int (Int32.ofInt 1)), none, none]) (S2 := (q28.2, t20)) (by decide +kernel) rfl (by decide +kernel) (Or.inl ⟨_, rfl, Or.inr fo_0⟩) rfl rfl rfl rfl rfl rfl (by omega) (fun d' hd' => dx_cls (fe_106 (by omega) (gf_106 rfl rfl rfl rfl rfl w29))) rfl ?_
                refine ds_lmul (p := 323) (c := Int64.ofInt (q26.1 * q28.1)) (by decide +kernel) rfl (gal_mul rfl rfl) ?_
                refine ds_lstore (k := 10) (p := 325) (M := 14) (al' := [some (.ref 0), some (.ref x1), some (.int (Int32.ofInt x2)), o3, some (.int (Int32.ofInt x4)), some (.ref x5), some (.int (Int32.ofInt x6)), some (.int (Int32.ofInt q4.1)), some (.int (Int32.ofInt (((q4.1 / 12) * (δ.I x1 1)) + (q4.1 % 12)))), some (.int (Int32.ofInt q23.1)), some (.long (Int64.ofInt (q26.1 * q28.1))), none, o12, none]) (by decide +kernel) rfl mx_255 rfl rfl ?_
                refine ds_aload_n (k := 0) (p := 326) (by decide +kernel) rfl rfl ?_
                refine ds_iload_n (k := 2) (p := 327) (by decide +kernel) rfl rfl ?_
                refine ds_iload (k := 7) (p := 329) (by decide +kernel) rfl rfl ?_
                refine ds_bipush (n := 12) (p := 331) (by decide +kernel) rfl dkb_12 ?_
                refine ds_idiv (p := 332) (c := Int32.ofInt (q4.1 / 12)) (by decide +kernel) rfl (gc_nz rfl (x := q4.1) ⟨z6.1, z6.2, by decide, by decide⟩) (ga_div rfl rfl ⟨z6.1, z6.2, by decide, by decide⟩) ?_
                refine ds_iload (k := 7) (p := 334) (by decide +kernel) rfl rfl ?_
                refine ds_bipush (n := 12) (p := 336) (by decide +kernel) rfl dkb_12 ?_
                refine ds_irem (p := 337) (c := Int32.ofInt (q4.1 % 12)) (by decide +kernel) rfl (gc_nz rfl (x := q4.1) ⟨z6.1, z6.2, by decide, by decide⟩) (ga_rem rfl rfl ⟨z6.1, z6.2, by decide, by decide⟩) ?_
                refine ds_iconst (n := 0) (p := 338) (by decide +kernel) rfl rfl ?_
                obtain ⟨q30, w31, h⟩ := fx_bd h
                refine ds_callV (idx := 178) (mj := 106) (ci := 9) (na := 4) (mx := 7) (p := 341) (args := [.ref 0, .int (Int32.ofInt x2), .int (Int32.ofInt (q4.1 / 12)), .int (Int32.ofInt (q4.1 % 12)), .int (Int32.ofInt 0)]) (rest := []) (al2 := [some (.ref 0), some (.int (Int32.ofInt x2)), some (.int (Int32.ofInt (q4.1 / 12))), some (.int (Int32.ofInt (q4.1 % 12))), some (.int (Int32.ofInt 0)), none, none]) (S2 := (q30.2, t20)) (by decide +kernel) rfl (by decide +kernel) (Or.inl ⟨_, rfl, Or.inr fo_0⟩) rfl rfl rfl rfl rfl rfl (by omega) (fun d' hd' => dx_cls (fe_106 (by omega) (gf_106 rfl rfl rfl rfl rfl w31))) rfl ?_
                refine ds_aload_n (k := 0) (p := 342) (by decide +kernel) rfl rfl ?_
                refine ds_iload_n (k := 2) (p := 343) (by decide +kernel) rfl rfl ?_
                refine ds_iload (k := 9) (p := 345) (by decide +kernel) rfl rfl ?_
                refine ds_bipush (n := 12) (p := 347) (by decide +kernel) rfl dkb_12 ?_
                refine ds_idiv (p := 348) (c := Int32.ofInt (q23.1 / 12)) (by decide +kernel) rfl (gc_nz rfl (x := q23.1) ⟨z25.1, z25.2, by decide, by decide⟩) (ga_div rfl rfl ⟨z25.1, z25.2, by decide, by decide⟩) ?_
                refine ds_iload (k := 9) (p := 350) (by decide +kernel) rfl rfl ?_
                refine ds_bipush (n := 12) (p := 352) (by decide +kernel) rfl dkb_12 ?_
                refine ds_irem (p := 353) (c := Int32.ofInt (q23.1 % 12)) (by decide +kernel) rfl (gc_nz rfl (x := q23.1) ⟨z25.1, z25.2, by decide, by decide⟩) (ga_rem rfl rfl ⟨z25.1, z25.2, by decide, by decide⟩) ?_
                refine ds_iconst (n := 1) (p := 354) (by decide +kernel) rfl rfl ?_
                obtain ⟨q32, w33, h⟩ := fx_bd h
                refine ds_callV (idx := 178) (mj := 106) (ci := 9) (na := 4) (mx := 7) (p := 357) (args := [.ref 0, .int (Int32.ofInt x2), .int (Int32.ofInt (q23.1 / 12)), .int (Int32.ofInt (q23.1 % 12)), .int (Int32.ofInt 1)]) (rest := [.long (Int64.ofInt q30.1)]) (al2 := [some (.ref 0), some (.int (Int32.ofInt x2)), some (.int (Int32.ofInt (q23.1 / 12))), some (.int (Int32.ofInt (q23.1 % 12))), some (.int (Int32.ofInt 1)), none, none]) (S2 := (q32.2, t20)) (by decide +kernel) rfl (by decide +kernel) (Or.inl ⟨_, rfl, Or.inr fo_0⟩) rfl rfl rfl rfl rfl rfl (by omega) (fun d' hd' => dx_cls (fe_106 (by omega) (gf_106 rfl rfl rfl rfl rfl w33))) rfl ?_
                refine ds_lmul (p := 358) (c := Int64.ofInt (q30.1 * q32.1)) (by decide +kernel) rfl (gal_mul rfl rfl) ?_
                refine ds_lstore (k := 12) (p := 360) (M := 14) (al' := [some (.ref 0), some (.ref x1), some (.int (Int32.ofInt x2)), o3, some (.int (Int32.ofInt x4)), some (.ref x5), some (.int (Int32.ofInt x6)), some (.int (Int32.ofInt q4.1)), some (.int (Int32.ofInt (((q4.1 / 12) * (δ.I x1 1)) + (q4.1 % 12)))), some (.int (Int32.ofInt q23.1)), some (.long (Int64.ofInt (q26.1 * q28.1))), none, some (.long (Int64.ofInt (q30.1 * q32.1))), none]) (by decide +kernel) rfl mx_255 rfl rfl ?_
                refine ds_lload (k := 10) (p := 362) (by decide +kernel) rfl rfl ?_
                refine ds_lload (k := 12) (p := 364) (by decide +kernel) rfl rfl ?_
                obtain ⟨z34, h⟩ := fx_gd h
                obtain ⟨z35, h⟩ := fx_gd h
                by_cases c36 : (q26.1 * q28.1) < (q30.1 * q32.1)
                · rw [if_pos c36] at h
                  refine ds_lcmp_lt_t (off := 18) (t := 383) (by decide +kernel) (by decide +kernel) (by decide +kernel) ((gcl_lt rfl rfl z34 z35).mpr c36) ?_
                  refine ds_iconst (n := 0) (p := 384) (by decide +kernel) rfl rfl ?_
                  have h := Option.some.inj h
                  subst h
                  exact ds_iret (by decide +kernel) rt_255 (by decide +kernel)
                · rw [if_neg c36] at h
                  refine ds_lcmp_lt_f (off := 18) (t := 383) (p := 368) (by decide +kernel) (by decide +kernel) (by decide +kernel) rfl (fun q => c36 ((gcl_lt rfl rfl z34 z35).mp q)) ?_
                  refine ds_lload (k := 10) (p := 370) (by decide +kernel) rfl rfl ?_
                  refine ds_lload (k := 12) (p := 372) (by decide +kernel) rfl rfl ?_
                  by_cases c37 : ¬ (q26.1 * q28.1) = (q30.1 * q32.1)
                  · rw [if_pos c37] at h
                    refine ds_lcmp_ne_t (off := 12) (t := 385) (by decide +kernel) (by decide +kernel) (by decide +kernel) ((gcl_ne rfl rfl z34 z35).mpr c37) ?_
                    exact de_255_385 hz hd ih _ _ _ _ _ _ _ _ _ _ _ _ _ _ _ h
                  · rw [if_neg c37] at h
                    refine ds_lcmp_ne_f (off := 12) (t := 385) (p := 376) (by decide +kernel) (by decide +kernel) (by decide +kernel) rfl (fun q => c37 ((gcl_ne rfl rfl z34 z35).mp q)) ?_
                    refine ds_iload (k := 9) (p := 378) (by decide +kernel) rfl rfl ?_
                    refine ds_iload (k := 7) (p := 380) (by decide +kernel) rfl rfl ?_
                    obtain ⟨z38, h⟩ := fx_gd h
                    by_cases c39 : q23.1 ≤ q4.1
                    · rw [if_pos c39] at h
                      refine ds_icmp_le_t (off := 5) (t := 385) (by decide +kernel) (by decide +kernel) ((gc_le rfl rfl z38 z8).mpr c39) ?_
                      exact de_255_385 hz hd ih _ _ _ _ _ _ _ _ _ _ _ _ _ _ _ h
                    · rw [if_neg c39] at h
                      refine ds_icmp_le_f (off := 5) (t := 385) (p := 383) (by decide +kernel) (by decide +kernel) rfl (fun q => c39 ((gc_le rfl rfl z38 z8).mp q)) ?_
                      refine ds_iconst (n := 0) (p := 384) (by decide +kernel) rfl rfl ?_
                      have h := Option.some.inj h
                      subst h
                      exact ds_iret (by decide +kernel) rt_255 (by decide +kernel)
              · rw [if_neg c22] at h
                refine ds_if_ne_f (off := 6) (t := 279) (p := 276) (by decide +kernel) (by decide +kernel) rfl (fun q => c22 ((gc_ne rfl rfl z1 (by decide)).mp q)) ?_
                refine ds_goto (off := 109) (p := 385) (by decide +kernel) (by decide +kernel) ?_
                exact de_255_385 hz hd ih _ _ _ _ _ _ _ _ _ _ _ _ _ _ _ h
            · rw [if_neg c19] at h
              refine ds_if_eq_f (off := 5) (t := 265) (p := 263) (by decide +kernel) (by decide +kernel) rfl (fun q => c19 ((gc_eq rfl rfl z18 (by decide)).mp q)) ?_
              refine ds_iconst (n := 0) (p := 264) (by decide +kernel) rfl rfl ?_
              have h := Option.some.inj h
              subst h
              exact ds_iret (by decide +kernel) rt_255 (by decide +kernel)
def dm_255_108 (L : Nat) (xs : Nat → Int32) (k_16 : Nat → Int → Nat → Int → Int → gx_S → dS → Option (Int × DS)) (x1 : Nat) (x2 : Int) (x3 : Nat) (x4 : Int) (x5 : Int) (x7 : Int) (x9 : Int) (s : gx_S) (δ : dS) : Option (Int × DS) :=
  (dm_251 L xs x7 x9 s δ).bind fun q1 =>
  if dO q1.2.2 x1 10 then (
  if 0 ≤ x5 ∧ x5 ≤ 2147483647 ∧ 0 < (q1.2.2.I x1 1) ∧ (q1.2.2.I x1 1) ≤ 2147483647 then (
  (gm_106 x2 (x5 / (q1.2.2.I x1 1)) (x5 % (q1.2.2.I x1 1)) 0 q1.2.1).bind fun q5 =>
  if 0 ≤ x7 ∧ x7 ≤ 9223372036854775807 ∧ 0 < q1.1 ∧ q1.1 ≤ 9223372036854775807 then (
  if (-9223372036854775808 ≤ q5.1 ∧ q5.1 ≤ 9223372036854775807) then (
  if (-9223372036854775808 ≤ (x7 / q1.1) ∧ (x7 / q1.1) ≤ 9223372036854775807) then (
  if ¬ q5.1 = (x7 / q1.1) then (
    some (0, q5.2, q1.2.2)) else (
    (gm_106 x2 (x5 / (q1.2.2.I x1 1)) (x5 % (q1.2.2.I x1 1)) 1 q5.2).bind fun q11 =>
    if 0 ≤ x9 ∧ x9 ≤ 9223372036854775807 ∧ 0 < q1.1 ∧ q1.1 ≤ 9223372036854775807 then (
    if (-9223372036854775808 ≤ q11.1 ∧ q11.1 ≤ 9223372036854775807) then (
    if (-9223372036854775808 ≤ (x9 / q1.1) ∧ (x9 / q1.1) ≤ 9223372036854775807) then (
    if q11.1 = (x9 / q1.1) then (
      k_16 x1 x2 x3 x4 (x5 + 1) q11.2 q1.2.2) else (
      some (0, q11.2, q1.2.2))) else none) else none) else none)) else none) else none) else none) else none) else none
theorem de_255_108 {z : iv_Z} {L : Nat} {xs : Nat → Int32} (hz : dZ z L xs) {d : Nat} (hd : 102 ≤ d) {k_16 : Nat → Int → Nat → Int → Int → gx_S → dS → Option (Int × DS)} (hk_16 : ∀ (x1 : Nat) (x2 : Int) (x3 : Nat) (x4 : Int) (x5 : Int) (o6 : Option Value) (o7 : Option Value) (o9 : Option Value) (o11 : Option Value) (s : gx_S) (δ : dS) (q : Int × DS), k_16 x1 x2 x3 x4 x5 s δ = some q → dE z 255 d 16 [some (.ref 0), some (.ref x1), some (.int (Int32.ofInt x2)), some (.ref x3), some (.int (Int32.ofInt x4)), some (.int (Int32.ofInt x5)), o6, o7, none, o9, none, o11, none, none] [] (s, δ) (some (.int (Int32.ofInt q.1))) q.2) (x1 : Nat) (x2 : Int) (x3 : Nat) (x4 : Int) (x5 : Int) (x7 : Int) (x9 : Int) (o6 : Option Value) (o11 : Option Value) (s : gx_S) (δ : dS) (q : Int × DS) (h : dm_255_108 L xs k_16  x1 x2 x3 x4 x5 x7 x9 s δ = some q) : dE z 255 d 108 [some (.ref 0), some (.ref x1), some (.int (Int32.ofInt x2)), some (.ref x3), some (.int (Int32.ofInt x4)), some (.int (Int32.ofInt x5)), o6, some (.long (Int64.ofInt x7)), none, some (.long (Int64.ofInt x9)), none, o11, none, none] [] (s, δ) (some (.int (Int32.ofInt q.1))) q.2 := by
  unfold dm_255_108 at h
  refine ds_lload (k := 7) (p := 110) (by decide +kernel) rfl rfl ?_
  refine ds_lload (k := 9) (p := 112) (by decide +kernel) rfl rfl ?_
  obtain ⟨q1, w2, h⟩ := fx_bd h
  refine ds_callS (idx := 134) (mj := 251) (na := 2) (mx := 4) (p := 115) (args := [.long (Int64.ofInt x7), .long (Int64.ofInt x9)]) (rest := []) (al2 := [some (.long (Int64.ofInt x7)), none, some (.long (Int64.ofInt x9)), none]) (S2 := q1.2) (by decide +kernel) rfl (by decide +kernel) rfl rfl rfl rfl rfl rfl (by omega) (fun d' hd' => de_251 hz (by omega) w2) rfl ?_
  refine ds_lstore (k := 11) (p := 117) (M := 14) (al' := [some (.ref 0), some (.ref x1), some (.int (Int32.ofInt x2)), some (.ref x3), some (.int (Int32.ofInt x4)), some (.int (Int32.ofInt x5)), o6, some (.long (Int64.ofInt x7)), none, some (.long (Int64.ofInt x9)), none, some (.long (Int64.ofInt q1.1)), none, none]) (by decide +kernel) rfl mx_255 rfl rfl ?_
  refine ds_aload_n (k := 0) (p := 118) (by decide +kernel) rfl rfl ?_
  refine ds_iload_n (k := 2) (p := 119) (by decide +kernel) rfl rfl ?_
  refine ds_iload (k := 5) (p := 121) (by decide +kernel) rfl rfl ?_
  refine ds_aload_n (k := 1) (p := 122) (by decide +kernel) rfl rfl ?_
  obtain ⟨z3, h⟩ := fx_gd h
  refine ds_gfi (idx := 52) (ci := 10) (j := 1) (p := 125) (by decide +kernel) rfl (by decide +kernel) z3 ?_
  obtain ⟨z4, h⟩ := fx_gd h
  refine ds_idiv (p := 126) (c := Int32.ofInt (x5 / (q1.2.2.I x1 1))) (by decide +kernel) rfl (gc_nz rfl (x := x5) z4) (ga_div rfl rfl z4) ?_
  refine ds_iload (k := 5) (p := 128) (by decide +kernel) rfl rfl ?_
  refine ds_aload_n (k := 1) (p := 129) (by decide +kernel) rfl rfl ?_
  refine ds_gfi (idx := 52) (ci := 10) (j := 1) (p := 132) (by decide +kernel) rfl (by decide +kernel) z3 ?_
  refine ds_irem (p := 133) (c := Int32.ofInt (x5 % (q1.2.2.I x1 1))) (by decide +kernel) rfl (gc_nz rfl (x := x5) z4) (ga_rem rfl rfl z4) ?_
  refine ds_iconst (n := 0) (p := 134) (by decide +kernel) rfl rfl ?_
  obtain ⟨q5, w6, h⟩ := fx_bd h
  refine ds_callV (idx := 178) (mj := 106) (ci := 9) (na := 4) (mx := 7) (p := 137) (args := [.ref 0, .int (Int32.ofInt x2), .int (Int32.ofInt (x5 / (q1.2.2.I x1 1))), .int (Int32.ofInt (x5 % (q1.2.2.I x1 1))), .int (Int32.ofInt 0)]) (rest := []) (al2 := [some (.ref 0), some (.int (Int32.ofInt x2)), some (.int (Int32.ofInt (x5 / (q1.2.2.I x1 1)))), some (.int (Int32.ofInt (x5 % (q1.2.2.I x1 1)))), some (.int (Int32.ofInt 0)), none, none]) (S2 := (q5.2, q1.2.2)) (by decide +kernel) rfl (by decide +kernel) (Or.inl ⟨_, rfl, Or.inr fo_0⟩) rfl rfl rfl rfl rfl rfl (by omega) (fun d' hd' => dx_cls (fe_106 (by omega) (gf_106 rfl rfl rfl rfl rfl w6))) rfl ?_
  refine ds_lload (k := 7) (p := 139) (by decide +kernel) rfl rfl ?_
  refine ds_lload (k := 11) (p := 141) (by decide +kernel) rfl rfl ?_
  obtain ⟨z7, h⟩ := fx_gd h
  refine ds_ldiv (p := 142) (c := Int64.ofInt (x7 / q1.1)) (by decide +kernel) rfl (gcl_nz rfl (x := x7) z7) (gal_div rfl rfl z7) ?_
  obtain ⟨z8, h⟩ := fx_gd h
  obtain ⟨z9, h⟩ := fx_gd h
  by_cases c10 : ¬ q5.1 = (x7 / q1.1)
  · rw [if_pos c10] at h
    refine ds_lcmp_ne_t (off := 32) (t := 175) (by decide +kernel) (by decide +kernel) (by decide +kernel) ((gcl_ne rfl rfl z8 z9).mpr c10) ?_
    refine ds_iconst (n := 0) (p := 176) (by decide +kernel) rfl rfl ?_
    have h := Option.some.inj h
    subst h
    exact ds_iret (by decide +kernel) rt_255 (by decide +kernel)
  · rw [if_neg c10] at h
    refine ds_lcmp_ne_f (off := 32) (t := 175) (p := 146) (by decide +kernel) (by decide +kernel) (by decide +kernel) rfl (fun q => c10 ((gcl_ne rfl rfl z8 z9).mp q)) ?_
    refine ds_aload_n (k := 0) (p := 147) (by decide +kernel) rfl rfl ?_
    refine ds_iload_n (k := 2) (p := 148) (by decide +kernel) rfl rfl ?_
    refine ds_iload (k := 5) (p := 150) (by decide +kernel) rfl rfl ?_
    refine ds_aload_n (k := 1) (p := 151) (by decide +kernel) rfl rfl ?_
    refine ds_gfi (idx := 52) (ci := 10) (j := 1) (p := 154) (by decide +kernel) rfl (by decide +kernel) z3 ?_
    refine ds_idiv (p := 155) (c := Int32.ofInt (x5 / (q1.2.2.I x1 1))) (by decide +kernel) rfl (gc_nz rfl (x := x5) z4) (ga_div rfl rfl z4) ?_
    refine ds_iload (k := 5) (p := 157) (by decide +kernel) rfl rfl ?_
    refine ds_aload_n (k := 1) (p := 158) (by decide +kernel) rfl rfl ?_
    refine ds_gfi (idx := 52) (ci := 10) (j := 1) (p := 161) (by decide +kernel) rfl (by decide +kernel) z3 ?_
    refine ds_irem (p := 162) (c := Int32.ofInt (x5 % (q1.2.2.I x1 1))) (by decide +kernel) rfl (gc_nz rfl (x := x5) z4) (ga_rem rfl rfl z4) ?_
    refine ds_iconst (n := 1) (p := 163) (by decide +kernel) rfl rfl ?_
    obtain ⟨q11, w12, h⟩ := fx_bd h
    refine ds_callV (idx := 178) (mj := 106) (ci := 9) (na := 4) (mx := 7) (p := 166) (args := [.ref 0, .int (Int32.ofInt x2), .int (Int32.ofInt (x5 / (q1.2.2.I x1 1))), .int (Int32.ofInt (x5 % (q1.2.2.I x1 1))), .int (Int32.ofInt 1)]) (rest := []) (al2 := [some (.ref 0), some (.int (Int32.ofInt x2)), some (.int (Int32.ofInt (x5 / (q1.2.2.I x1 1)))), some (.int (Int32.ofInt (x5 % (q1.2.2.I x1 1)))), some (.int (Int32.ofInt 1)), none, none]) (S2 := (q11.2, q1.2.2)) (by decide +kernel) rfl (by decide +kernel) (Or.inl ⟨_, rfl, Or.inr fo_0⟩) rfl rfl rfl rfl rfl rfl (by omega) (fun d' hd' => dx_cls (fe_106 (by omega) (gf_106 rfl rfl rfl rfl rfl w12))) rfl ?_
    refine ds_lload (k := 9) (p := 168) (by decide +kernel) rfl rfl ?_
    refine ds_lload (k := 11) (p := 170) (by decide +kernel) rfl rfl ?_
    obtain ⟨z13, h⟩ := fx_gd h
    refine ds_ldiv (p := 171) (c := Int64.ofInt (x9 / q1.1)) (by decide +kernel) rfl (gcl_nz rfl (x := x9) z13) (gal_div rfl rfl z13) ?_
    obtain ⟨z14, h⟩ := fx_gd h
    obtain ⟨z15, h⟩ := fx_gd h
    by_cases c16 : q11.1 = (x9 / q1.1)
    · rw [if_pos c16] at h
      refine ds_lcmp_eq_t (off := 5) (t := 177) (by decide +kernel) (by decide +kernel) (by decide +kernel) ((gcl_eq rfl rfl z14 z15).mpr c16) ?_
      refine ds_iinc (k := 5) (n := 1) (p := 180) (M := 14) (y := Int32.ofInt (x5 + 1)) (al' := [some (.ref 0), some (.ref x1), some (.int (Int32.ofInt x2)), some (.ref x3), some (.int (Int32.ofInt x4)), some (.int (Int32.ofInt (x5 + 1))), o6, some (.long (Int64.ofInt x7)), none, some (.long (Int64.ofInt x9)), none, some (.long (Int64.ofInt q1.1)), none, none]) (by decide +kernel) rfl rfl mx_255 rfl rfl (ga_add rfl rfl) rfl ?_
      refine ds_goto (off := -164) (p := 16) (by decide +kernel) (by decide +kernel) ?_
      exact hk_16 _ _ _ _ _ _ _ _ _ _ _ _ h
    · rw [if_neg c16] at h
      refine ds_lcmp_eq_f (off := 5) (t := 177) (p := 175) (by decide +kernel) (by decide +kernel) (by decide +kernel) rfl (fun q => c16 ((gcl_eq rfl rfl z14 z15).mp q)) ?_
      refine ds_iconst (n := 0) (p := 176) (by decide +kernel) rfl rfl ?_
      have h := Option.some.inj h
      subst h
      exact ds_iret (by decide +kernel) rt_255 (by decide +kernel)
def dm_255_91 (L : Nat) (xs : Nat → Int32) (k_16 : Nat → Int → Nat → Int → Int → gx_S → dS → Option (Int × DS)) (x1 : Nat) (x2 : Int) (x3 : Nat) (x4 : Int) (x5 : Int) (x6 : Int) (x11 : Int) (s0 : Int) (s1 : Int) (s : gx_S) (δ : dS) : Option (Int × DS) :=
  if (-2147483648 ≤ s1 ∧ s1 ≤ 2147483647) then (
  (dm_244 L xs x1 x2 x6 (-1) x11 s δ).bind fun q2 =>
  if (-2147483648 ≤ q2.1 ∧ q2.1 ≤ 2147483647) then (
  dm_255_108 L xs k_16 x1 x2 x3 x4 x5 (s0 * s1) q2.1 q2.2.1 q2.2.2) else none) else none
theorem de_255_91 {z : iv_Z} {L : Nat} {xs : Nat → Int32} (hz : dZ z L xs) {d : Nat} (hd : 102 ≤ d) {k_16 : Nat → Int → Nat → Int → Int → gx_S → dS → Option (Int × DS)} (hk_16 : ∀ (x1 : Nat) (x2 : Int) (x3 : Nat) (x4 : Int) (x5 : Int) (o6 : Option Value) (o7 : Option Value) (o9 : Option Value) (o11 : Option Value) (s : gx_S) (δ : dS) (q : Int × DS), k_16 x1 x2 x3 x4 x5 s δ = some q → dE z 255 d 16 [some (.ref 0), some (.ref x1), some (.int (Int32.ofInt x2)), some (.ref x3), some (.int (Int32.ofInt x4)), some (.int (Int32.ofInt x5)), o6, o7, none, o9, none, o11, none, none] [] (s, δ) (some (.int (Int32.ofInt q.1))) q.2) (x1 : Nat) (x2 : Int) (x3 : Nat) (x4 : Int) (x5 : Int) (x6 : Int) (x11 : Int) (s0 : Int) (s1 : Int) (o7 : Option Value) (o9 : Option Value) (s : gx_S) (δ : dS) (q : Int × DS) (h : dm_255_91 L xs k_16  x1 x2 x3 x4 x5 x6 x11 s0 s1 s δ = some q) : dE z 255 d 91 [some (.ref 0), some (.ref x1), some (.int (Int32.ofInt x2)), some (.ref x3), some (.int (Int32.ofInt x4)), some (.int (Int32.ofInt x5)), some (.int (Int32.ofInt x6)), o7, none, o9, none, some (.int (Int32.ofInt x11)), none, none] [.int (Int32.ofInt s1), .long (Int64.ofInt s0)] (s, δ) (some (.int (Int32.ofInt q.1))) q.2 := by
  unfold dm_255_91 at h
  obtain ⟨z1, h⟩ := fx_gd h
  refine ds_i2l (p := 92) (c := Int64.ofInt s1) (by decide +kernel) rfl (ga_i2l rfl z1) ?_
  refine ds_lmul (p := 93) (c := Int64.ofInt (s0 * s1)) (by decide +kernel) rfl (gal_mul rfl rfl) ?_
  refine ds_lstore (k := 7) (p := 95) (M := 14) (al' := [some (.ref 0), some (.ref x1), some (.int (Int32.ofInt x2)), some (.ref x3), some (.int (Int32.ofInt x4)), some (.int (Int32.ofInt x5)), some (.int (Int32.ofInt x6)), some (.long (Int64.ofInt (s0 * s1))), none, o9, none, some (.int (Int32.ofInt x11)), none, none]) (by decide +kernel) rfl mx_255 rfl rfl ?_
  refine ds_aload_n (k := 1) (p := 96) (by decide +kernel) rfl rfl ?_
  refine ds_iload_n (k := 2) (p := 97) (by decide +kernel) rfl rfl ?_
  refine ds_iload (k := 6) (p := 99) (by decide +kernel) rfl rfl ?_
  refine ds_iconst (n := -1) (p := 100) (by decide +kernel) rfl rfl ?_
  refine ds_iload (k := 11) (p := 102) (by decide +kernel) rfl rfl ?_
  obtain ⟨q2, w3, h⟩ := fx_bd h
  refine ds_callS (idx := 130) (mj := 244) (na := 5) (mx := 7) (p := 105) (args := [.ref x1, .int (Int32.ofInt x2), .int (Int32.ofInt x6), .int (Int32.ofInt (-1)), .int (Int32.ofInt x11)]) (rest := []) (al2 := [some (.ref x1), some (.int (Int32.ofInt x2)), some (.int (Int32.ofInt x6)), some (.int (Int32.ofInt (-1))), some (.int (Int32.ofInt x11)), none, none]) (S2 := q2.2) (by decide +kernel) rfl (by decide +kernel) rfl rfl rfl rfl rfl rfl (by omega) (fun d' hd' => de_244 hz (by omega) w3) rfl ?_
  obtain ⟨z4, h⟩ := fx_gd h
  refine ds_i2l (p := 106) (c := Int64.ofInt q2.1) (by decide +kernel) rfl (ga_i2l rfl z4) ?_
  refine ds_lstore (k := 9) (p := 108) (M := 14) (al' := [some (.ref 0), some (.ref x1), some (.int (Int32.ofInt x2)), some (.ref x3), some (.int (Int32.ofInt x4)), some (.int (Int32.ofInt x5)), some (.int (Int32.ofInt x6)), some (.long (Int64.ofInt (s0 * s1))), none, some (.long (Int64.ofInt q2.1)), none, some (.int (Int32.ofInt x11)), none, none]) (by decide +kernel) rfl mx_255 rfl rfl ?_
  exact de_255_108 hz hd hk_16 _ _ _ _ _ _ _ _ _ _ _ _ h
def dm_255_62 (L : Nat) (xs : Nat → Int32) (k_16 : Nat → Int → Nat → Int → Int → gx_S → dS → Option (Int × DS)) (x1 : Nat) (x2 : Int) (x3 : Nat) (x4 : Int) (x5 : Int) (x6 : Int) (s0 : Int) (s : gx_S) (δ : dS) : Option (Int × DS) :=
  if dA δ 1 x3 then (
  if dI δ x3 x6 then (
  if (-2147483648 ≤ s0 ∧ s0 ≤ 2147483647) then (
  if s0 = 0 then (
    if dO δ x1 10 then (
    (δ.P x1 8).bind fun v6 =>
    if dA δ 6 v6 then (
    if dI δ v6 x2 then (
    (δ.P v6 ((x2).toNat)).bind fun v10 =>
    (δ.P x1 6).bind fun v12 =>
    if dA δ 0 v12 then (
    if dI δ v12 x5 then (
    if dA δ 0 v10 then (
    if dI δ v10 (δ.I v12 ((x5).toNat)) then (
    dm_255_91 L xs k_16 x1 x2 x3 x4 x5 x6 s0 (δ.I x3 ((x6).toNat)) (δ.I v10 (((δ.I v12 ((x5).toNat))).toNat)) s δ) else none) else none) else none) else none) else none) else none) else none) else (
    dm_255_91 L xs k_16 x1 x2 x3 x4 x5 x6 s0 (δ.I x3 ((x6).toNat)) 1 s δ)) else none) else none) else none
theorem de_255_62 {z : iv_Z} {L : Nat} {xs : Nat → Int32} (hz : dZ z L xs) {d : Nat} (hd : 102 ≤ d) {k_16 : Nat → Int → Nat → Int → Int → gx_S → dS → Option (Int × DS)} (hk_16 : ∀ (x1 : Nat) (x2 : Int) (x3 : Nat) (x4 : Int) (x5 : Int) (o6 : Option Value) (o7 : Option Value) (o9 : Option Value) (o11 : Option Value) (s : gx_S) (δ : dS) (q : Int × DS), k_16 x1 x2 x3 x4 x5 s δ = some q → dE z 255 d 16 [some (.ref 0), some (.ref x1), some (.int (Int32.ofInt x2)), some (.ref x3), some (.int (Int32.ofInt x4)), some (.int (Int32.ofInt x5)), o6, o7, none, o9, none, o11, none, none] [] (s, δ) (some (.int (Int32.ofInt q.1))) q.2) (x1 : Nat) (x2 : Int) (x3 : Nat) (x4 : Int) (x5 : Int) (x6 : Int) (s0 : Int) (o7 : Option Value) (o9 : Option Value) (o11 : Option Value) (s : gx_S) (δ : dS) (q : Int × DS) (h : dm_255_62 L xs k_16  x1 x2 x3 x4 x5 x6 s0 s δ = some q) : dE z 255 d 62 [some (.ref 0), some (.ref x1), some (.int (Int32.ofInt x2)), some (.ref x3), some (.int (Int32.ofInt x4)), some (.int (Int32.ofInt x5)), some (.int (Int32.ofInt x6)), o7, none, o9, none, o11, none, none] [.int (Int32.ofInt s0)] (s, δ) (some (.int (Int32.ofInt q.1))) q.2 := by
  unfold dm_255_62 at h
  refine ds_istore (k := 11) (p := 64) (M := 14) (al' := [some (.ref 0), some (.ref x1), some (.int (Int32.ofInt x2)), some (.ref x3), some (.int (Int32.ofInt x4)), some (.int (Int32.ofInt x5)), some (.int (Int32.ofInt x6)), o7, none, o9, none, some (.int (Int32.ofInt s0)), none, none]) (by decide +kernel) rfl mx_255 rfl rfl ?_
  refine ds_aload_n (k := 3) (p := 65) (by decide +kernel) rfl rfl ?_
  refine ds_iload (k := 6) (p := 67) (by decide +kernel) rfl rfl ?_
  obtain ⟨z1, h⟩ := fx_gd h
  obtain ⟨z2, h⟩ := fx_gd h
  refine ds_laload (p := 68) (by decide +kernel) rfl z1 z2 ?_
  refine ds_iload (k := 11) (p := 70) (by decide +kernel) rfl rfl ?_
  obtain ⟨z3, h⟩ := fx_gd h
  by_cases c4 : s0 = 0
  · rw [if_pos c4] at h
    refine ds_if_eq_t (off := 7) (t := 77) (by decide +kernel) (by decide +kernel) ((gc_eq rfl rfl z3 (by decide)).mpr c4) ?_
    refine ds_aload_n (k := 1) (p := 78) (by decide +kernel) rfl rfl ?_
    obtain ⟨z5, h⟩ := fx_gd h
    obtain ⟨v6, w7, h⟩ := fx_bd h
    refine ds_gfr (idx := 75) (ci := 10) (j := 8) (p := 81) (by decide +kernel) rfl (by decide +kernel) z5 w7 ?_
    refine ds_iload_n (k := 2) (p := 82) (by decide +kernel) rfl rfl ?_
    obtain ⟨z8, h⟩ := fx_gd h
    obtain ⟨z9, h⟩ := fx_gd h
    obtain ⟨v10, w11, h⟩ := fx_bd h
    refine ds_aaload (t := 6) (p := 83) (by decide +kernel) rfl (by decide +kernel) z8 z9 w11 ?_
    refine ds_aload_n (k := 1) (p := 84) (by decide +kernel) rfl rfl ?_
    obtain ⟨v12, w13, h⟩ := fx_bd h
    refine ds_gfr (idx := 62) (ci := 10) (j := 6) (p := 87) (by decide +kernel) rfl (by decide +kernel) z5 w13 ?_
    refine ds_iload (k := 5) (p := 89) (by decide +kernel) rfl rfl ?_
    obtain ⟨z14, h⟩ := fx_gd h
    obtain ⟨z15, h⟩ := fx_gd h
    refine ds_iaload (p := 90) (by decide +kernel) rfl z14 z15 ?_
    obtain ⟨z16, h⟩ := fx_gd h
    obtain ⟨z17, h⟩ := fx_gd h
    refine ds_iaload (p := 91) (by decide +kernel) rfl z16 z17 ?_
    exact de_255_91 hz hd hk_16 _ _ _ _ _ _ _ _ _ _ _ _ _ _ h
  · rw [if_neg c4] at h
    refine ds_if_eq_f (off := 7) (t := 77) (p := 73) (by decide +kernel) (by decide +kernel) rfl (fun q => c4 ((gc_eq rfl rfl z3 (by decide)).mp q)) ?_
    refine ds_iconst (n := 1) (p := 74) (by decide +kernel) rfl rfl ?_
    refine ds_goto (off := 17) (p := 91) (by decide +kernel) (by decide +kernel) ?_
    exact de_255_91 hz hd hk_16 _ _ _ _ _ _ _ _ _ _ _ _ _ _ h
def dm_255_16 (L : Nat) (xs : Nat → Int32) : Nat → Nat → Int → Nat → Int → Int → gx_S → dS → Option (Int × DS)
  | 0, _, _, _, _, _, _, _ => none
  | n + 1, x1, x2, x3, x4, x5, s, δ =>
    if (-2147483648 ≤ x5 ∧ x5 ≤ 2147483647) then (
    if (-2147483648 ≤ x4 ∧ x4 ≤ 2147483647) then (
    if x4 ≤ x5 then (
      if 0 ≤ x4 ∧ x4 ≤ 60000000 then (
      (some (δ.al 2 (x4).toNat)).bind fun t5 =>
      dm_255_192 L xs 100000 x1 x2 x4 δ.n 0 s t5) else none) else (
      if dO δ x1 10 then (
      (δ.P x1 4).bind fun v8 =>
      if dA δ 0 v8 then (
      if dI δ v8 x5 then (
      if (-2147483648 ≤ (δ.I v8 ((x5).toNat)) ∧ (δ.I v8 ((x5).toNat)) ≤ 2147483647) then (
      if 8 ≤ (δ.I v8 ((x5).toNat)) then (
        dm_255_108 L xs (dm_255_16 L xs n) x1 x2 x3 x4 x5 0 1 s δ) else (
        (dm_244 L xs x1 x2 (δ.I v8 ((x5).toNat)) (-1) 0 s δ).bind fun q14 =>
        if (-2147483648 ≤ q14.1 ∧ q14.1 ≤ 2147483647) then (
        if ¬ q14.1 = 0 then (
          dm_255_62 L xs (dm_255_16 L xs n) x1 x2 x3 x4 x5 (δ.I v8 ((x5).toNat)) 0 q14.2.1 q14.2.2) else (
          dm_255_62 L xs (dm_255_16 L xs n) x1 x2 x3 x4 x5 (δ.I v8 ((x5).toNat)) 1 q14.2.1 q14.2.2)) else none)) else none) else none) else none) else none)) else none) else none
theorem de_255_16 {z : iv_Z} {L : Nat} {xs : Nat → Int32} (hz : dZ z L xs) {d : Nat} (hd : 102 ≤ d) : ∀ (n : Nat) (x1 : Nat) (x2 : Int) (x3 : Nat) (x4 : Int) (x5 : Int) (o6 : Option Value) (o7 : Option Value) (o9 : Option Value) (o11 : Option Value) (s : gx_S) (δ : dS) (q : Int × DS), dm_255_16 L xs n x1 x2 x3 x4 x5 s δ = some q → dE z 255 d 16 [some (.ref 0), some (.ref x1), some (.int (Int32.ofInt x2)), some (.ref x3), some (.int (Int32.ofInt x4)), some (.int (Int32.ofInt x5)), o6, o7, none, o9, none, o11, none, none] [] (s, δ) (some (.int (Int32.ofInt q.1))) q.2 := by
  intro n
  induction n with
  | zero =>
    intro x1 x2 x3 x4 x5 o6 o7 o9 o11 s δ q h
    rw [dm_255_16] at h
    exact fx_no h
  | succ n ih =>
    intro x1 x2 x3 x4 x5 o6 o7 o9 o11 s δ q h
    rw [dm_255_16] at h
    refine ds_iload (k := 5) (p := 18) (by decide +kernel) rfl rfl ?_
    refine ds_iload (k := 4) (p := 20) (by decide +kernel) rfl rfl ?_
    obtain ⟨z1, h⟩ := fx_gd h
    obtain ⟨z2, h⟩ := fx_gd h
    by_cases c3 : x4 ≤ x5
    · rw [if_pos c3] at h
      refine ds_icmp_ge_t (off := 163) (t := 183) (by decide +kernel) (by decide +kernel) ((gc_le rfl rfl z2 z1).mpr c3) ?_
      refine ds_iload (k := 4) (p := 185) (by decide +kernel) rfl rfl ?_
      obtain ⟨z4, h⟩ := fx_gd h
      obtain ⟨t5, w6, h⟩ := fx_bd h
      refine ds_newarray (a := .boolean) (t := 2) (p := 187) (by decide +kernel) rfl (by decide +kernel) (by decide) z4 ?_
      rw [Option.some.inj w6]
      refine ds_astore (k := 5) (p := 189) (M := 14) (al' := [some (.ref 0), some (.ref x1), some (.int (Int32.ofInt x2)), some (.ref x3), some (.int (Int32.ofInt x4)), some (.ref δ.n), o6, o7, none, o9, none, o11, none, none]) (by decide +kernel) rfl mx_255 rfl rfl ?_
      refine ds_iconst (n := 0) (p := 190) (by decide +kernel) rfl rfl ?_
      refine ds_istore (k := 6) (p := 192) (M := 14) (al' := [some (.ref 0), some (.ref x1), some (.int (Int32.ofInt x2)), some (.ref x3), some (.int (Int32.ofInt x4)), some (.ref δ.n), some (.int (Int32.ofInt 0)), o7, none, o9, none, o11, none, none]) (by decide +kernel) rfl mx_255 rfl rfl ?_
      exact de_255_192 hz hd 100000 _ _ _ _ _ _ _ _ _ _ _ _ _ _ _ h
    · rw [if_neg c3] at h
      refine ds_icmp_ge_f (off := 163) (t := 183) (p := 23) (by decide +kernel) (by decide +kernel) rfl (fun q => c3 ((gc_le rfl rfl z2 z1).mp q)) ?_
      refine ds_aload_n (k := 1) (p := 24) (by decide +kernel) rfl rfl ?_
      obtain ⟨z7, h⟩ := fx_gd h
      obtain ⟨v8, w9, h⟩ := fx_bd h
      refine ds_gfr (idx := 55) (ci := 10) (j := 4) (p := 27) (by decide +kernel) rfl (by decide +kernel) z7 w9 ?_
      refine ds_iload (k := 5) (p := 29) (by decide +kernel) rfl rfl ?_
      obtain ⟨z10, h⟩ := fx_gd h
      obtain ⟨z11, h⟩ := fx_gd h
      refine ds_iaload (p := 30) (by decide +kernel) rfl z10 z11 ?_
      refine ds_istore (k := 6) (p := 32) (M := 14) (al' := [some (.ref 0), some (.ref x1), some (.int (Int32.ofInt x2)), some (.ref x3), some (.int (Int32.ofInt x4)), some (.int (Int32.ofInt x5)), some (.int (Int32.ofInt (δ.I v8 ((x5).toNat)))), o7, none, o9, none, o11, none, none]) (by decide +kernel) rfl mx_255 rfl rfl ?_
      refine ds_lconst (n := 0) (p := 33) (by decide +kernel) rfl dl_0 ?_
      refine ds_lstore (k := 7) (p := 35) (M := 14) (al' := [some (.ref 0), some (.ref x1), some (.int (Int32.ofInt x2)), some (.ref x3), some (.int (Int32.ofInt x4)), some (.int (Int32.ofInt x5)), some (.int (Int32.ofInt (δ.I v8 ((x5).toNat)))), some (.long (Int64.ofInt 0)), none, o9, none, o11, none, none]) (by decide +kernel) rfl mx_255 rfl rfl ?_
      refine ds_lconst (n := 1) (p := 36) (by decide +kernel) rfl dl_1 ?_
      refine ds_lstore (k := 9) (p := 38) (M := 14) (al' := [some (.ref 0), some (.ref x1), some (.int (Int32.ofInt x2)), some (.ref x3), some (.int (Int32.ofInt x4)), some (.int (Int32.ofInt x5)), some (.int (Int32.ofInt (δ.I v8 ((x5).toNat)))), some (.long (Int64.ofInt 0)), none, some (.long (Int64.ofInt 1)), none, o11, none, none]) (by decide +kernel) rfl mx_255 rfl rfl ?_
      refine ds_iload (k := 6) (p := 40) (by decide +kernel) rfl rfl ?_
      refine ds_bipush (n := 8) (p := 42) (by decide +kernel) rfl dkb_8 ?_
      obtain ⟨z12, h⟩ := fx_gd h
      by_cases c13 : 8 ≤ (δ.I v8 ((x5).toNat))
      · rw [if_pos c13] at h
        refine ds_icmp_ge_t (off := 66) (t := 108) (by decide +kernel) (by decide +kernel) ((gc_le rfl rfl (by decide) z12).mpr c13) ?_
        exact de_255_108 hz hd ih _ _ _ _ _ _ _ _ _ _ _ _ h
      · rw [if_neg c13] at h
        refine ds_icmp_ge_f (off := 66) (t := 108) (p := 45) (by decide +kernel) (by decide +kernel) rfl (fun q => c13 ((gc_le rfl rfl (by decide) z12).mp q)) ?_
        refine ds_aload_n (k := 1) (p := 46) (by decide +kernel) rfl rfl ?_
        refine ds_iload_n (k := 2) (p := 47) (by decide +kernel) rfl rfl ?_
        refine ds_iload (k := 6) (p := 49) (by decide +kernel) rfl rfl ?_
        refine ds_iconst (n := -1) (p := 50) (by decide +kernel) rfl rfl ?_
        refine ds_iconst (n := 0) (p := 51) (by decide +kernel) rfl rfl ?_
        obtain ⟨q14, w15, h⟩ := fx_bd h
        refine ds_callS (idx := 130) (mj := 244) (na := 5) (mx := 7) (p := 54) (args := [.ref x1, .int (Int32.ofInt x2), .int (Int32.ofInt (δ.I v8 ((x5).toNat))), .int (Int32.ofInt (-1)), .int (Int32.ofInt 0)]) (rest := []) (al2 := [some (.ref x1), some (.int (Int32.ofInt x2)), some (.int (Int32.ofInt (δ.I v8 ((x5).toNat)))), some (.int (Int32.ofInt (-1))), some (.int (Int32.ofInt 0)), none, none]) (S2 := q14.2) (by decide +kernel) rfl (by decide +kernel) rfl rfl rfl rfl rfl rfl (by omega) (fun d' hd' => de_244 hz (by omega) w15) rfl ?_
        obtain ⟨z16, h⟩ := fx_gd h
        by_cases c17 : ¬ q14.1 = 0
        · rw [if_pos c17] at h
          refine ds_if_ne_t (off := 7) (t := 61) (by decide +kernel) (by decide +kernel) ((gc_ne rfl rfl z16 (by decide)).mpr c17) ?_
          refine ds_iconst (n := 0) (p := 62) (by decide +kernel) rfl rfl ?_
          exact de_255_62 hz hd ih _ _ _ _ _ _ _ _ _ _ _ _ _ h
        · rw [if_neg c17] at h
          refine ds_if_ne_f (off := 7) (t := 61) (p := 57) (by decide +kernel) (by decide +kernel) rfl (fun q => c17 ((gc_ne rfl rfl z16 (by decide)).mp q)) ?_
          refine ds_iconst (n := 1) (p := 58) (by decide +kernel) rfl rfl ?_
          refine ds_goto (off := 4) (p := 62) (by decide +kernel) (by decide +kernel) ?_
          exact de_255_62 hz hd ih _ _ _ _ _ _ _ _ _ _ _ _ _ h
def dm_255 (L : Nat) (xs : Nat → Int32) (x1 : Nat) (x2 : Int) (s : gx_S) (δ : dS) : Option (Int × DS) :=
  (dm_248 L xs x1 x2 s δ).bind fun q1 =>
  if dO q1.2.2 x1 10 then (
  (q1.2.2.P x1 4).bind fun v4 =>
  if dA q1.2.2 0 v4 then (
  dm_255_16 L xs 100000 x1 x2 q1.1 ((q1.2.2.sh v4).2 : Int) 0 q1.2.1 q1.2.2) else none) else none
theorem de_255 {z : iv_Z} {L : Nat} {xs : Nat → Int32} (hz : dZ z L xs) {d : Nat} (hd : 102 ≤ d) {x1 : Nat} {x2 : Int} {s : gx_S} {δ : dS} {q : Int × DS} (h : dm_255 L xs x1 x2 s δ = some q) : dE z 255 d 0 [some (.ref 0), some (.ref x1), some (.int (Int32.ofInt x2)), none, none, none, none, none, none, none, none, none, none, none] [] (s, δ) (some (.int (Int32.ofInt q.1))) q.2 := by
  unfold dm_255 at h
  refine ds_aload_n (k := 1) (p := 1) (by decide +kernel) rfl rfl ?_
  refine ds_iload_n (k := 2) (p := 2) (by decide +kernel) rfl rfl ?_
  obtain ⟨q1, w2, h⟩ := fx_bd h
  refine ds_callS (idx := 151) (mj := 248) (na := 2) (mx := 7) (p := 5) (args := [.ref x1, .int (Int32.ofInt x2)]) (rest := []) (al2 := [some (.ref x1), some (.int (Int32.ofInt x2)), none, none, none, none, none]) (S2 := q1.2) (by decide +kernel) rfl (by decide +kernel) rfl rfl rfl rfl rfl rfl (by omega) (fun d' hd' => de_248 hz (by omega) w2) rfl ?_
  refine ds_astore_n (k := 3) (p := 6) (M := 14) (al' := [some (.ref 0), some (.ref x1), some (.int (Int32.ofInt x2)), some (.ref q1.1), none, none, none, none, none, none, none, none, none, none]) (by decide +kernel) rfl mx_255 rfl rfl ?_
  refine ds_aload_n (k := 1) (p := 7) (by decide +kernel) rfl rfl ?_
  obtain ⟨z3, h⟩ := fx_gd h
  obtain ⟨v4, w5, h⟩ := fx_bd h
  refine ds_gfr (idx := 55) (ci := 10) (j := 4) (p := 10) (by decide +kernel) rfl (by decide +kernel) z3 w5 ?_
  obtain ⟨z6, h⟩ := fx_gd h
  refine ds_alen (t := 0) (p := 11) (by decide +kernel) rfl z6 (by decide) ?_
  refine ds_istore (k := 4) (p := 13) (M := 14) (al' := [some (.ref 0), some (.ref x1), some (.int (Int32.ofInt x2)), some (.ref q1.1), some (.int (Int32.ofInt ((q1.2.2.sh v4).2 : Int))), none, none, none, none, none, none, none, none, none]) (by decide +kernel) rfl mx_255 rfl rfl ?_
  refine ds_iconst (n := 0) (p := 14) (by decide +kernel) rfl rfl ?_
  refine ds_istore (k := 5) (p := 16) (M := 14) (al' := [some (.ref 0), some (.ref x1), some (.int (Int32.ofInt x2)), some (.ref q1.1), some (.int (Int32.ofInt ((q1.2.2.sh v4).2 : Int))), some (.int (Int32.ofInt 0)), none, none, none, none, none, none, none, none]) (by decide +kernel) rfl mx_255 rfl rfl ?_
  exact de_255_16 hz hd 100000 _ _ _ _ _ _ _ _ _ _ _ _ h
/-! ZoneSharesLaw.law([I)Z s -/
theorem mx_236 : iv_mx 236 = 18 := by decide +kernel
theorem rt_236 : iv_rt 236 = some .boolean := by decide +kernel
def dm_236_723 (L : Nat) (xs : Nat → Int32) : Nat → Int → gx_S → dS → Option (Int × DS)
  | 0, _, _, _ => none
  | n + 1, x15, s, δ =>
    if (-2147483648 ≤ x15 ∧ x15 ≤ 2147483647) then (
    if x15 ≤ 0 then (
      (gm_94 s).bind fun q3 =>
      if (-2147483648 ≤ q3.1 ∧ q3.1 ≤ 2147483647) then (
      if ¬ q3.1 = (-1) then (
        some (0, q3.2, δ)) else (
        (gm_99 3 0 0 q3.2).bind fun q7 =>
        if (-2147483648 ≤ q7.1 ∧ q7.1 ≤ 2147483647) then (
        if ¬ q7.1 = (-1) then (
          some (0, q7.2, δ)) else (
          (gm_99 0 8 0 q7.2).bind fun q11 =>
          if (-2147483648 ≤ q11.1 ∧ q11.1 ≤ 2147483647) then (
          if ¬ q11.1 = (-1) then (
            some (0, q11.2, δ)) else (
            (gm_99 0 0 9 q11.2).bind fun q15 =>
            if (-2147483648 ≤ q15.1 ∧ q15.1 ≤ 2147483647) then (
            if ¬ q15.1 = (-1) then (
              some (0, q15.2, δ)) else (
              some (1, q15.2, δ))) else none)) else none)) else none)) else none) else (
      (gm_94 s).bind fun q19 =>
      if (-2147483648 ≤ q19.1 ∧ q19.1 ≤ 2147483647) then (
      if (-2147483648 ≤ (x15 + (-1)) ∧ (x15 + (-1)) ≤ 2147483647) then (
      if q19.1 = (x15 + (-1)) then (
        dm_236_723 L xs n (x15 + (-1)) q19.2 δ) else (
        some (0, q19.2, δ))) else none) else none)) else none
theorem de_236_723 {z : iv_Z} {L : Nat} {xs : Nat → Int32} (hz : dZ z L xs) {d : Nat} (hd : 103 ≤ d) : ∀ (n : Nat) (x15 : Int) (o0 : Option Value) (o2 : Option Value) (o3 : Option Value) (o4 : Option Value) (o5 : Option Value) (o6 : Option Value) (o8 : Option Value) (o10 : Option Value) (o11 : Option Value) (o13 : Option Value) (o14 : Option Value) (o16 : Option Value) (o17 : Option Value) (s : gx_S) (δ : dS) (q : Int × DS), dm_236_723 L xs n x15 s δ = some q → dE z 236 d 723 [o0, some (.ref 0), o2, o3, o4, o5, o6, none, o8, none, o10, o11, none, o13, o14, some (.int (Int32.ofInt x15)), o16, o17] [] (s, δ) (some (.int (Int32.ofInt q.1))) q.2 := by
  intro n
  induction n with
  | zero =>
    intro x15 o0 o2 o3 o4 o5 o6 o8 o10 o11 o13 o14 o16 o17 s δ q h
    rw [dm_236_723] at h
    exact fx_no h
  | succ n ih =>
    intro x15 o0 o2 o3 o4 o5 o6 o8 o10 o11 o13 o14 o16 o17 s δ q h
    rw [dm_236_723] at h
    refine ds_iload (k := 15) (p := 725) (by decide +kernel) rfl rfl ?_
    obtain ⟨z1, h⟩ := fx_gd h
    by_cases c2 : x15 ≤ 0
    · rw [if_pos c2] at h
      refine ds_if_le_t (off := 17) (t := 742) (by decide +kernel) (by decide +kernel) ((gc_le rfl rfl z1 (by decide)).mpr c2) ?_
      refine ds_aload_n (k := 1) (p := 743) (by decide +kernel) rfl rfl ?_
      obtain ⟨q3, w4, h⟩ := fx_bd h
      refine ds_callV (idx := 245) (mj := 94) (ci := 9) (na := 0) (mx := 1) (p := 746) (args := [.ref 0]) (rest := []) (al2 := [some (.ref 0)]) (S2 := (q3.2, δ)) (by decide +kernel) rfl (by decide +kernel) (Or.inl ⟨_, rfl, Or.inr fo_0⟩) rfl rfl rfl rfl rfl rfl (by omega) (fun d' hd' => dx_cls (fe_94 (by omega) (gf_94 rfl w4))) rfl ?_
      refine ds_iconst (n := -1) (p := 747) (by decide +kernel) rfl rfl ?_
      obtain ⟨z5, h⟩ := fx_gd h
      by_cases c6 : ¬ q3.1 = (-1)
      · rw [if_pos c6] at h
        refine ds_icmp_ne_t (off := 42) (t := 789) (by decide +kernel) (by decide +kernel) ((gc_ne rfl rfl z5 (by decide)).mpr c6) ?_
        refine ds_iconst (n := 0) (p := 790) (by decide +kernel) rfl rfl ?_
        have h := Option.some.inj h
        subst h
        exact ds_iret (by decide +kernel) rt_236 (by decide +kernel)
      · rw [if_neg c6] at h
        refine ds_icmp_ne_f (off := 42) (t := 789) (p := 750) (by decide +kernel) (by decide +kernel) rfl (fun q => c6 ((gc_ne rfl rfl z5 (by decide)).mp q)) ?_
        refine ds_aload_n (k := 1) (p := 751) (by decide +kernel) rfl rfl ?_
        refine ds_iconst (n := 3) (p := 752) (by decide +kernel) rfl rfl ?_
        refine ds_iconst (n := 0) (p := 753) (by decide +kernel) rfl rfl ?_
        refine ds_iconst (n := 0) (p := 754) (by decide +kernel) rfl rfl ?_
        obtain ⟨q7, w8, h⟩ := fx_bd h
        refine ds_callV (idx := 163) (mj := 99) (ci := 9) (na := 3) (mx := 12) (p := 757) (args := [.ref 0, .int (Int32.ofInt 3), .int (Int32.ofInt 0), .int (Int32.ofInt 0)]) (rest := []) (al2 := [some (.ref 0), some (.int (Int32.ofInt 3)), some (.int (Int32.ofInt 0)), some (.int (Int32.ofInt 0)), none, none, none, none, none, none, none, none]) (S2 := (q7.2, δ)) (by decide +kernel) rfl (by decide +kernel) (Or.inl ⟨_, rfl, Or.inr fo_0⟩) rfl rfl rfl rfl rfl rfl (by omega) (fun d' hd' => dx_cls (fe_99 (by omega) (gf_99 rfl rfl rfl rfl w8))) rfl ?_
        refine ds_iconst (n := -1) (p := 758) (by decide +kernel) rfl rfl ?_
        obtain ⟨z9, h⟩ := fx_gd h
        by_cases c10 : ¬ q7.1 = (-1)
        · rw [if_pos c10] at h
          refine ds_icmp_ne_t (off := 31) (t := 789) (by decide +kernel) (by decide +kernel) ((gc_ne rfl rfl z9 (by decide)).mpr c10) ?_
          refine ds_iconst (n := 0) (p := 790) (by decide +kernel) rfl rfl ?_
          have h := Option.some.inj h
          subst h
          exact ds_iret (by decide +kernel) rt_236 (by decide +kernel)
        · rw [if_neg c10] at h
          refine ds_icmp_ne_f (off := 31) (t := 789) (p := 761) (by decide +kernel) (by decide +kernel) rfl (fun q => c10 ((gc_ne rfl rfl z9 (by decide)).mp q)) ?_
          refine ds_aload_n (k := 1) (p := 762) (by decide +kernel) rfl rfl ?_
          refine ds_iconst (n := 0) (p := 763) (by decide +kernel) rfl rfl ?_
          refine ds_bipush (n := 8) (p := 765) (by decide +kernel) rfl dkb_8 ?_
          refine ds_iconst (n := 0) (p := 766) (by decide +kernel) rfl rfl ?_
          obtain ⟨q11, w12, h⟩ := fx_bd h
          refine ds_callV (idx := 163) (mj := 99) (ci := 9) (na := 3) (mx := 12) (p := 769) (args := [.ref 0, .int (Int32.ofInt 0), .int (Int32.ofInt 8), .int (Int32.ofInt 0)]) (rest := []) (al2 := [some (.ref 0), some (.int (Int32.ofInt 0)), some (.int (Int32.ofInt 8)), some (.int (Int32.ofInt 0)), none, none, none, none, none, none, none, none]) (S2 := (q11.2, δ)) (by decide +kernel) rfl (by decide +kernel) (Or.inl ⟨_, rfl, Or.inr fo_0⟩) rfl rfl rfl rfl rfl rfl (by omega) (fun d' hd' => dx_cls (fe_99 (by omega) (gf_99 rfl rfl rfl rfl w12))) rfl ?_
          refine ds_iconst (n := -1) (p := 770) (by decide +kernel) rfl rfl ?_
          obtain ⟨z13, h⟩ := fx_gd h
          by_cases c14 : ¬ q11.1 = (-1)
          · rw [if_pos c14] at h
            refine ds_icmp_ne_t (off := 19) (t := 789) (by decide +kernel) (by decide +kernel) ((gc_ne rfl rfl z13 (by decide)).mpr c14) ?_
            refine ds_iconst (n := 0) (p := 790) (by decide +kernel) rfl rfl ?_
            have h := Option.some.inj h
            subst h
            exact ds_iret (by decide +kernel) rt_236 (by decide +kernel)
          · rw [if_neg c14] at h
            refine ds_icmp_ne_f (off := 19) (t := 789) (p := 773) (by decide +kernel) (by decide +kernel) rfl (fun q => c14 ((gc_ne rfl rfl z13 (by decide)).mp q)) ?_
            refine ds_aload_n (k := 1) (p := 774) (by decide +kernel) rfl rfl ?_
            refine ds_iconst (n := 0) (p := 775) (by decide +kernel) rfl rfl ?_
            refine ds_iconst (n := 0) (p := 776) (by decide +kernel) rfl rfl ?_
            refine ds_bipush (n := 9) (p := 778) (by decide +kernel) rfl dkb_9 ?_
            obtain ⟨q15, w16, h⟩ := fx_bd h
            refine ds_callV (idx := 163) (mj := 99) (ci := 9) (na := 3) (mx := 12) (p := 781) (args := [.ref 0, .int (Int32.ofInt 0), .int (Int32.ofInt 0), .int (Int32.ofInt 9)]) (rest := []) (al2 := [some (.ref 0), some (.int (Int32.ofInt 0)), some (.int (Int32.ofInt 0)), some (.int (Int32.ofInt 9)), none, none, none, none, none, none, none, none]) (S2 := (q15.2, δ)) (by decide +kernel) rfl (by decide +kernel) (Or.inl ⟨_, rfl, Or.inr fo_0⟩) rfl rfl rfl rfl rfl rfl (by omega) (fun d' hd' => dx_cls (fe_99 (by omega) (gf_99 rfl rfl rfl rfl w16))) rfl ?_
            refine ds_iconst (n := -1) (p := 782) (by decide +kernel) rfl rfl ?_
            obtain ⟨z17, h⟩ := fx_gd h
            by_cases c18 : ¬ q15.1 = (-1)
            · rw [if_pos c18] at h
              refine ds_icmp_ne_t (off := 7) (t := 789) (by decide +kernel) (by decide +kernel) ((gc_ne rfl rfl z17 (by decide)).mpr c18) ?_
              refine ds_iconst (n := 0) (p := 790) (by decide +kernel) rfl rfl ?_
              have h := Option.some.inj h
              subst h
              exact ds_iret (by decide +kernel) rt_236 (by decide +kernel)
            · rw [if_neg c18] at h
              refine ds_icmp_ne_f (off := 7) (t := 789) (p := 785) (by decide +kernel) (by decide +kernel) rfl (fun q => c18 ((gc_ne rfl rfl z17 (by decide)).mp q)) ?_
              refine ds_iconst (n := 1) (p := 786) (by decide +kernel) rfl rfl ?_
              refine ds_goto (off := 4) (p := 790) (by decide +kernel) (by decide +kernel) ?_
              have h := Option.some.inj h
              subst h
              exact ds_iret (by decide +kernel) rt_236 (by decide +kernel)
    · rw [if_neg c2] at h
      refine ds_if_le_f (off := 17) (t := 742) (p := 728) (by decide +kernel) (by decide +kernel) rfl (fun q => c2 ((gc_le rfl rfl z1 (by decide)).mp q)) ?_
      refine ds_aload_n (k := 1) (p := 729) (by decide +kernel) rfl rfl ?_
      obtain ⟨q19, w20, h⟩ := fx_bd h
      refine ds_callV (idx := 245) (mj := 94) (ci := 9) (na := 0) (mx := 1) (p := 732) (args := [.ref 0]) (rest := []) (al2 := [some (.ref 0)]) (S2 := (q19.2, δ)) (by decide +kernel) rfl (by decide +kernel) (Or.inl ⟨_, rfl, Or.inr fo_0⟩) rfl rfl rfl rfl rfl rfl (by omega) (fun d' hd' => dx_cls (fe_94 (by omega) (gf_94 rfl w20))) rfl ?_
      refine ds_iinc (k := 15) (n := -1) (p := 735) (M := 18) (y := Int32.ofInt (x15 + (-1))) (al' := [o0, some (.ref 0), o2, o3, o4, o5, o6, none, o8, none, o10, o11, none, o13, (fx_kl o14), some (.int (Int32.ofInt (x15 + (-1)))), o16, o17]) (by decide +kernel) rfl rfl mx_236 rfl rfl (ga_add rfl rfl) rfl ?_
      refine ds_iload (k := 15) (p := 737) (by decide +kernel) rfl rfl ?_
      obtain ⟨z21, h⟩ := fx_gd h
      obtain ⟨z22, h⟩ := fx_gd h
      by_cases c23 : q19.1 = (x15 + (-1))
      · rw [if_pos c23] at h
        refine ds_icmp_eq_t (off := -14) (t := 723) (by decide +kernel) (by decide +kernel) ((gc_eq rfl rfl z21 z22).mpr c23) ?_
        exact ih _ _ _ _ _ _ _ _ _ _ _ _ _ _ _ _ _ h
      · rw [if_neg c23] at h
        refine ds_icmp_eq_f (off := -14) (t := 723) (p := 740) (by decide +kernel) (by decide +kernel) rfl (fun q => c23 ((gc_eq rfl rfl z21 z22).mp q)) ?_
        refine ds_iconst (n := 0) (p := 741) (by decide +kernel) rfl rfl ?_
        have h := Option.some.inj h
        subst h
        exact ds_iret (by decide +kernel) rt_236 (by decide +kernel)
def dm_236_594 (L : Nat) (xs : Nat → Int32) (k_565 : Nat → Nat → Int → Int → gx_S → dS → Option (Int × DS)) : Nat → Nat → Nat → Int → Int → Nat → Int → gx_S → dS → Option (Int × DS)
  | 0, _, _, _, _, _, _, _, _ => none
  | n + 1, x3, x13, x14, x15, x16, x17, s, δ =>
    if (-2147483648 ≤ x17 ∧ x17 ≤ 2147483647) then (
    if 8 ≤ x17 then (
      k_565 x3 x13 x14 (x15 + 1) s δ) else (
      (gm_99 x15 x17 x17 s).bind fun q3 =>
      if (-2147483648 ≤ q3.1 ∧ q3.1 ≤ 2147483647) then (
      if dA δ 1 x16 then (
      if dI δ x16 x17 then (
      if (-9223372036854775808 ≤ q3.1 ∧ q3.1 ≤ 9223372036854775807) then (
      if (-9223372036854775808 ≤ (δ.I x16 ((x17).toNat)) ∧ (δ.I x16 ((x17).toNat)) ≤ 9223372036854775807) then (
      if q3.1 = (δ.I x16 ((x17).toNat)) then (
        dm_236_594 L xs k_565 n x3 x13 x14 x15 x16 (x17 + 1) q3.2 δ) else (
        some (0, q3.2, δ))) else none) else none) else none) else none) else none)) else none
theorem de_236_594 {z : iv_Z} {L : Nat} {xs : Nat → Int32} (hz : dZ z L xs) {d : Nat} (hd : 103 ≤ d) {k_565 : Nat → Nat → Int → Int → gx_S → dS → Option (Int × DS)} (hk_565 : ∀ (x3 : Nat) (x13 : Nat) (x14 : Int) (x15 : Int) (o0 : Option Value) (o2 : Option Value) (o4 : Option Value) (o5 : Option Value) (o6 : Option Value) (o8 : Option Value) (o10 : Option Value) (o11 : Option Value) (o16 : Option Value) (o17 : Option Value) (s : gx_S) (δ : dS) (q : Int × DS), k_565 x3 x13 x14 x15 s δ = some q → dE z 236 d 565 [o0, some (.ref 0), o2, some (.ref x3), o4, o5, o6, none, o8, none, o10, o11, none, some (.ref x13), some (.int (Int32.ofInt x14)), some (.int (Int32.ofInt x15)), o16, o17] [] (s, δ) (some (.int (Int32.ofInt q.1))) q.2) : ∀ (n : Nat) (x3 : Nat) (x13 : Nat) (x14 : Int) (x15 : Int) (x16 : Nat) (x17 : Int) (o0 : Option Value) (o2 : Option Value) (o4 : Option Value) (o5 : Option Value) (o6 : Option Value) (o8 : Option Value) (o10 : Option Value) (o11 : Option Value) (s : gx_S) (δ : dS) (q : Int × DS), dm_236_594 L xs k_565 n x3 x13 x14 x15 x16 x17 s δ = some q → dE z 236 d 594 [o0, some (.ref 0), o2, some (.ref x3), o4, o5, o6, none, o8, none, o10, o11, none, some (.ref x13), some (.int (Int32.ofInt x14)), some (.int (Int32.ofInt x15)), some (.ref x16), some (.int (Int32.ofInt x17))] [] (s, δ) (some (.int (Int32.ofInt q.1))) q.2 := by
  intro n
  induction n with
  | zero =>
    intro x3 x13 x14 x15 x16 x17 o0 o2 o4 o5 o6 o8 o10 o11 s δ q h
    rw [dm_236_594] at h
    exact fx_no h
  | succ n ih =>
    intro x3 x13 x14 x15 x16 x17 o0 o2 o4 o5 o6 o8 o10 o11 s δ q h
    rw [dm_236_594] at h
    refine ds_iload (k := 17) (p := 596) (by decide +kernel) rfl rfl ?_
    refine ds_bipush (n := 8) (p := 598) (by decide +kernel) rfl dkb_8 ?_
    obtain ⟨z1, h⟩ := fx_gd h
    by_cases c2 : 8 ≤ x17
    · rw [if_pos c2] at h
      refine ds_icmp_ge_t (off := 31) (t := 629) (by decide +kernel) (by decide +kernel) ((gc_le rfl rfl (by decide) z1).mpr c2) ?_
      refine ds_iinc (k := 15) (n := 1) (p := 632) (M := 18) (y := Int32.ofInt (x15 + 1)) (al' := [o0, some (.ref 0), o2, some (.ref x3), o4, o5, o6, none, o8, none, o10, o11, none, some (.ref x13), some (.int (Int32.ofInt x14)), some (.int (Int32.ofInt (x15 + 1))), some (.ref x16), some (.int (Int32.ofInt x17))]) (by decide +kernel) rfl rfl mx_236 rfl rfl (ga_add rfl rfl) rfl ?_
      refine ds_goto (off := -67) (p := 565) (by decide +kernel) (by decide +kernel) ?_
      exact hk_565 _ _ _ _ _ _ _ _ _ _ _ _ _ _ _ _ _ h
    · rw [if_neg c2] at h
      refine ds_icmp_ge_f (off := 31) (t := 629) (p := 601) (by decide +kernel) (by decide +kernel) rfl (fun q => c2 ((gc_le rfl rfl (by decide) z1).mp q)) ?_
      refine ds_aload_n (k := 1) (p := 602) (by decide +kernel) rfl rfl ?_
      refine ds_iload (k := 15) (p := 604) (by decide +kernel) rfl rfl ?_
      refine ds_iload (k := 17) (p := 606) (by decide +kernel) rfl rfl ?_
      refine ds_iload (k := 17) (p := 608) (by decide +kernel) rfl rfl ?_
      obtain ⟨q3, w4, h⟩ := fx_bd h
      refine ds_callV (idx := 163) (mj := 99) (ci := 9) (na := 3) (mx := 12) (p := 611) (args := [.ref 0, .int (Int32.ofInt x15), .int (Int32.ofInt x17), .int (Int32.ofInt x17)]) (rest := []) (al2 := [some (.ref 0), some (.int (Int32.ofInt x15)), some (.int (Int32.ofInt x17)), some (.int (Int32.ofInt x17)), none, none, none, none, none, none, none, none]) (S2 := (q3.2, δ)) (by decide +kernel) rfl (by decide +kernel) (Or.inl ⟨_, rfl, Or.inr fo_0⟩) rfl rfl rfl rfl rfl rfl (by omega) (fun d' hd' => dx_cls (fe_99 (by omega) (gf_99 rfl rfl rfl rfl w4))) rfl ?_
      obtain ⟨z5, h⟩ := fx_gd h
      refine ds_i2l (p := 612) (c := Int64.ofInt q3.1) (by decide +kernel) rfl (ga_i2l rfl z5) ?_
      refine ds_aload (k := 16) (p := 614) (by decide +kernel) rfl rfl ?_
      refine ds_iload (k := 17) (p := 616) (by decide +kernel) rfl rfl ?_
      obtain ⟨z6, h⟩ := fx_gd h
      obtain ⟨z7, h⟩ := fx_gd h
      refine ds_laload (p := 617) (by decide +kernel) rfl z6 z7 ?_
      obtain ⟨z8, h⟩ := fx_gd h
      obtain ⟨z9, h⟩ := fx_gd h
      by_cases c10 : q3.1 = (δ.I x16 ((x17).toNat))
      · rw [if_pos c10] at h
        refine ds_lcmp_eq_t (off := 5) (t := 623) (by decide +kernel) (by decide +kernel) (by decide +kernel) ((gcl_eq rfl rfl z8 z9).mpr c10) ?_
        refine ds_iinc (k := 17) (n := 1) (p := 626) (M := 18) (y := Int32.ofInt (x17 + 1)) (al' := [o0, some (.ref 0), o2, some (.ref x3), o4, o5, o6, none, o8, none, o10, o11, none, some (.ref x13), some (.int (Int32.ofInt x14)), some (.int (Int32.ofInt x15)), some (.ref x16), some (.int (Int32.ofInt (x17 + 1)))]) (by decide +kernel) rfl rfl mx_236 rfl rfl (ga_add rfl rfl) rfl ?_
        refine ds_goto (off := -32) (p := 594) (by decide +kernel) (by decide +kernel) ?_
        exact ih _ _ _ _ _ _ _ _ _ _ _ _ _ _ _ _ _ h
      · rw [if_neg c10] at h
        refine ds_lcmp_eq_f (off := 5) (t := 623) (p := 621) (by decide +kernel) (by decide +kernel) (by decide +kernel) rfl (fun q => c10 ((gcl_eq rfl rfl z8 z9).mp q)) ?_
        refine ds_iconst (n := 0) (p := 622) (by decide +kernel) rfl rfl ?_
        have h := Option.some.inj h
        subst h
        exact ds_iret (by decide +kernel) rt_236 (by decide +kernel)
def dm_236_565 (L : Nat) (xs : Nat → Int32) : Nat → Nat → Nat → Int → Int → gx_S → dS → Option (Int × DS)
  | 0, _, _, _, _, _, _ => none
  | n + 1, x3, x13, x14, x15, s, δ =>
    if (-2147483648 ≤ x15 ∧ x15 ≤ 2147483647) then (
    if 3 ≤ x15 then (
      (gm_110 0 s).bind fun q3 =>
      if (-2147483648 ≤ q3.1 ∧ q3.1 ≤ 2147483647) then (
      if ¬ q3.1 = 0 then (
        some (0, q3.2, δ)) else (
        (gm_110 2 q3.2).bind fun q7 =>
        if (-2147483648 ≤ q7.1 ∧ q7.1 ≤ 2147483647) then (
        if ¬ q7.1 = 0 then (
          some (0, q7.2, δ)) else (
          (gm_110 3 q7.2).bind fun q11 =>
          if (-2147483648 ≤ q11.1 ∧ q11.1 ≤ 2147483647) then (
          if ¬ q11.1 = 0 then (
            some (0, q11.2, δ)) else (
            (gm_110 1 q11.2).bind fun q15 =>
            (gm_111 2 q15.2).bind fun q17 =>
            if (-2147483648 ≤ q15.1 ∧ q15.1 ≤ 2147483647) then (
            if (-2147483648 ≤ q17.1 ∧ q17.1 ≤ 2147483647) then (
            if ¬ q15.1 = q17.1 then (
              some (0, q17.2, δ)) else (
              (gm_111 2 q17.2).bind fun q22 =>
              (gm_111 3 q22.2).bind fun q24 =>
              if (-2147483648 ≤ q22.1 ∧ q22.1 ≤ 2147483647) then (
              if (-2147483648 ≤ q24.1 ∧ q24.1 ≤ 2147483647) then (
              if q22.1 = q24.1 then (
                (gm_94 q24.2).bind fun q29 =>
                if (-2147483648 ≤ x14 ∧ x14 ≤ 2147483647) then (
                if (-2147483648 ≤ q29.1 ∧ q29.1 ≤ 2147483647) then (
                if (-2147483648 ≤ (if x14 < 7 then x14 else 7) ∧ (if x14 < 7 then x14 else 7) ≤ 2147483647) then (
                if ¬ q29.1 = (if x14 < 7 then x14 else 7) then (
                  some (0, q29.2, δ)) else (
                  (dm_252 L xs q29.2 δ).bind fun q35 =>
                  if dO q35.2.2 q35.1 12 then (
                  (dm_280 q35.1 x13 q35.2.1 q35.2.2).bind fun q37 =>
                  if (-2147483648 ≤ q37.1 ∧ q37.1 ≤ 2147483647) then (
                  if ¬ q37.1 = 0 then (
                    (gm_111 8 q37.2.1).bind fun q42 =>
                    dm_236_723 L xs 100000 q42.1 q42.2 q37.2.2) else (
                    some (0, q37.2.1, q37.2.2))) else none) else none)) else none) else none) else none) else (
                some (0, q24.2, δ))) else none) else none)) else none) else none)) else none)) else none)) else none) else (
      (dm_254 L xs x3 x15 s δ).bind fun q44 =>
      if (-2147483648 ≤ q44.1 ∧ q44.1 ≤ 2147483647) then (
      if ¬ q44.1 = 0 then (
        (dm_248 L xs x3 x15 q44.2.1 q44.2.2).bind fun q48 =>
        dm_236_594 L xs (dm_236_565 L xs n) 100000 x3 x13 x14 x15 q48.1 0 q48.2.1 q48.2.2) else (
        some (0, q44.2.1, q44.2.2))) else none)) else none
theorem de_236_565 {z : iv_Z} {L : Nat} {xs : Nat → Int32} (hz : dZ z L xs) {d : Nat} (hd : 103 ≤ d) : ∀ (n : Nat) (x3 : Nat) (x13 : Nat) (x14 : Int) (x15 : Int) (o0 : Option Value) (o2 : Option Value) (o4 : Option Value) (o5 : Option Value) (o6 : Option Value) (o8 : Option Value) (o10 : Option Value) (o11 : Option Value) (o16 : Option Value) (o17 : Option Value) (s : gx_S) (δ : dS) (q : Int × DS), dm_236_565 L xs n x3 x13 x14 x15 s δ = some q → dE z 236 d 565 [o0, some (.ref 0), o2, some (.ref x3), o4, o5, o6, none, o8, none, o10, o11, none, some (.ref x13), some (.int (Int32.ofInt x14)), some (.int (Int32.ofInt x15)), o16, o17] [] (s, δ) (some (.int (Int32.ofInt q.1))) q.2 := by
  intro n
  induction n with
  | zero =>
    intro x3 x13 x14 x15 o0 o2 o4 o5 o6 o8 o10 o11 o16 o17 s δ q h
    rw [dm_236_565] at h
    exact fx_no h
  | succ n ih =>
    intro x3 x13 x14 x15 o0 o2 o4 o5 o6 o8 o10 o11 o16 o17 s δ q h
    rw [dm_236_565] at h
    refine ds_iload (k := 15) (p := 567) (by decide +kernel) rfl rfl ?_
    refine ds_iconst (n := 3) (p := 568) (by decide +kernel) rfl rfl ?_
    obtain ⟨z1, h⟩ := fx_gd h
    by_cases c2 : 3 ≤ x15
    · rw [if_pos c2] at h
      refine ds_icmp_ge_t (off := 67) (t := 635) (by decide +kernel) (by decide +kernel) ((gc_le rfl rfl (by decide) z1).mpr c2) ?_
      refine ds_aload_n (k := 1) (p := 636) (by decide +kernel) rfl rfl ?_
      refine ds_iconst (n := 0) (p := 637) (by decide +kernel) rfl rfl ?_
      obtain ⟨q3, w4, h⟩ := fx_bd h
      refine ds_callV (idx := 242) (mj := 110) (ci := 9) (na := 1) (mx := 4) (p := 640) (args := [.ref 0, .int (Int32.ofInt 0)]) (rest := []) (al2 := [some (.ref 0), some (.int (Int32.ofInt 0)), none, none]) (S2 := (q3.2, δ)) (by decide +kernel) rfl (by decide +kernel) (Or.inl ⟨_, rfl, Or.inr fo_0⟩) rfl rfl rfl rfl rfl rfl (by omega) (fun d' hd' => dx_cls (fe_110 (by omega) (gf_110 rfl rfl w4))) rfl ?_
      obtain ⟨z5, h⟩ := fx_gd h
      by_cases c6 : ¬ q3.1 = 0
      · rw [if_pos c6] at h
        refine ds_if_ne_t (off := 45) (t := 685) (by decide +kernel) (by decide +kernel) ((gc_ne rfl rfl z5 (by decide)).mpr c6) ?_
        refine ds_iconst (n := 0) (p := 686) (by decide +kernel) rfl rfl ?_
        have h := Option.some.inj h
        subst h
        exact ds_iret (by decide +kernel) rt_236 (by decide +kernel)
      · rw [if_neg c6] at h
        refine ds_if_ne_f (off := 45) (t := 685) (p := 643) (by decide +kernel) (by decide +kernel) rfl (fun q => c6 ((gc_ne rfl rfl z5 (by decide)).mp q)) ?_
        refine ds_aload_n (k := 1) (p := 644) (by decide +kernel) rfl rfl ?_
        refine ds_iconst (n := 2) (p := 645) (by decide +kernel) rfl rfl ?_
        obtain ⟨q7, w8, h⟩ := fx_bd h
        refine ds_callV (idx := 242) (mj := 110) (ci := 9) (na := 1) (mx := 4) (p := 648) (args := [.ref 0, .int (Int32.ofInt 2)]) (rest := []) (al2 := [some (.ref 0), some (.int (Int32.ofInt 2)), none, none]) (S2 := (q7.2, δ)) (by decide +kernel) rfl (by decide +kernel) (Or.inl ⟨_, rfl, Or.inr fo_0⟩) rfl rfl rfl rfl rfl rfl (by omega) (fun d' hd' => dx_cls (fe_110 (by omega) (gf_110 rfl rfl w8))) rfl ?_
        obtain ⟨z9, h⟩ := fx_gd h
        by_cases c10 : ¬ q7.1 = 0
        · rw [if_pos c10] at h
          refine ds_if_ne_t (off := 37) (t := 685) (by decide +kernel) (by decide +kernel) ((gc_ne rfl rfl z9 (by decide)).mpr c10) ?_
          refine ds_iconst (n := 0) (p := 686) (by decide +kernel) rfl rfl ?_
          have h := Option.some.inj h
          subst h
          exact ds_iret (by decide +kernel) rt_236 (by decide +kernel)
        · rw [if_neg c10] at h
          refine ds_if_ne_f (off := 37) (t := 685) (p := 651) (by decide +kernel) (by decide +kernel) rfl (fun q => c10 ((gc_ne rfl rfl z9 (by decide)).mp q)) ?_
          refine ds_aload_n (k := 1) (p := 652) (by decide +kernel) rfl rfl ?_
          refine ds_iconst (n := 3) (p := 653) (by decide +kernel) rfl rfl ?_
          obtain ⟨q11, w12, h⟩ := fx_bd h
          refine ds_callV (idx := 242) (mj := 110) (ci := 9) (na := 1) (mx := 4) (p := 656) (args := [.ref 0, .int (Int32.ofInt 3)]) (rest := []) (al2 := [some (.ref 0), some (.int (Int32.ofInt 3)), none, none]) (S2 := (q11.2, δ)) (by decide +kernel) rfl (by decide +kernel) (Or.inl ⟨_, rfl, Or.inr fo_0⟩) rfl rfl rfl rfl rfl rfl (by omega) (fun d' hd' => dx_cls (fe_110 (by omega) (gf_110 rfl rfl w12))) rfl ?_
          obtain ⟨z13, h⟩ := fx_gd h
          by_cases c14 : ¬ q11.1 = 0
          · rw [if_pos c14] at h
            refine ds_if_ne_t (off := 29) (t := 685) (by decide +kernel) (by decide +kernel) ((gc_ne rfl rfl z13 (by decide)).mpr c14) ?_
            refine ds_iconst (n := 0) (p := 686) (by decide +kernel) rfl rfl ?_
            have h := Option.some.inj h
            subst h
            exact ds_iret (by decide +kernel) rt_236 (by decide +kernel)
          · rw [if_neg c14] at h
            refine ds_if_ne_f (off := 29) (t := 685) (p := 659) (by decide +kernel) (by decide +kernel) rfl (fun q => c14 ((gc_ne rfl rfl z13 (by decide)).mp q)) ?_
            refine ds_aload_n (k := 1) (p := 660) (by decide +kernel) rfl rfl ?_
            refine ds_iconst (n := 1) (p := 661) (by decide +kernel) rfl rfl ?_
            obtain ⟨q15, w16, h⟩ := fx_bd h
            refine ds_callV (idx := 242) (mj := 110) (ci := 9) (na := 1) (mx := 4) (p := 664) (args := [.ref 0, .int (Int32.ofInt 1)]) (rest := []) (al2 := [some (.ref 0), some (.int (Int32.ofInt 1)), none, none]) (S2 := (q15.2, δ)) (by decide +kernel) rfl (by decide +kernel) (Or.inl ⟨_, rfl, Or.inr fo_0⟩) rfl rfl rfl rfl rfl rfl (by omega) (fun d' hd' => dx_cls (fe_110 (by omega) (gf_110 rfl rfl w16))) rfl ?_
            refine ds_aload_n (k := 1) (p := 665) (by decide +kernel) rfl rfl ?_
            refine ds_iconst (n := 2) (p := 666) (by decide +kernel) rfl rfl ?_
            obtain ⟨q17, w18, h⟩ := fx_bd h
            refine ds_callV (idx := 149) (mj := 111) (ci := 9) (na := 1) (mx := 2) (p := 669) (args := [.ref 0, .int (Int32.ofInt 2)]) (rest := [.int (Int32.ofInt q15.1)]) (al2 := [some (.ref 0), some (.int (Int32.ofInt 2))]) (S2 := (q17.2, δ)) (by decide +kernel) rfl (by decide +kernel) (Or.inl ⟨_, rfl, Or.inr fo_0⟩) rfl rfl rfl rfl rfl rfl (by omega) (fun d' hd' => dx_cls (fe_111 (by omega) (gf_111 rfl rfl w18))) rfl ?_
            obtain ⟨z19, h⟩ := fx_gd h
            obtain ⟨z20, h⟩ := fx_gd h
            by_cases c21 : ¬ q15.1 = q17.1
            · rw [if_pos c21] at h
              refine ds_icmp_ne_t (off := 16) (t := 685) (by decide +kernel) (by decide +kernel) ((gc_ne rfl rfl z19 z20).mpr c21) ?_
              refine ds_iconst (n := 0) (p := 686) (by decide +kernel) rfl rfl ?_
              have h := Option.some.inj h
              subst h
              exact ds_iret (by decide +kernel) rt_236 (by decide +kernel)
            · rw [if_neg c21] at h
              refine ds_icmp_ne_f (off := 16) (t := 685) (p := 672) (by decide +kernel) (by decide +kernel) rfl (fun q => c21 ((gc_ne rfl rfl z19 z20).mp q)) ?_
              refine ds_aload_n (k := 1) (p := 673) (by decide +kernel) rfl rfl ?_
              refine ds_iconst (n := 2) (p := 674) (by decide +kernel) rfl rfl ?_
              obtain ⟨q22, w23, h⟩ := fx_bd h
              refine ds_callV (idx := 149) (mj := 111) (ci := 9) (na := 1) (mx := 2) (p := 677) (args := [.ref 0, .int (Int32.ofInt 2)]) (rest := []) (al2 := [some (.ref 0), some (.int (Int32.ofInt 2))]) (S2 := (q22.2, δ)) (by decide +kernel) rfl (by decide +kernel) (Or.inl ⟨_, rfl, Or.inr fo_0⟩) rfl rfl rfl rfl rfl rfl (by omega) (fun d' hd' => dx_cls (fe_111 (by omega) (gf_111 rfl rfl w23))) rfl ?_
              refine ds_aload_n (k := 1) (p := 678) (by decide +kernel) rfl rfl ?_
              refine ds_iconst (n := 3) (p := 679) (by decide +kernel) rfl rfl ?_
              obtain ⟨q24, w25, h⟩ := fx_bd h
              refine ds_callV (idx := 149) (mj := 111) (ci := 9) (na := 1) (mx := 2) (p := 682) (args := [.ref 0, .int (Int32.ofInt 3)]) (rest := [.int (Int32.ofInt q22.1)]) (al2 := [some (.ref 0), some (.int (Int32.ofInt 3))]) (S2 := (q24.2, δ)) (by decide +kernel) rfl (by decide +kernel) (Or.inl ⟨_, rfl, Or.inr fo_0⟩) rfl rfl rfl rfl rfl rfl (by omega) (fun d' hd' => dx_cls (fe_111 (by omega) (gf_111 rfl rfl w25))) rfl ?_
              obtain ⟨z26, h⟩ := fx_gd h
              obtain ⟨z27, h⟩ := fx_gd h
              by_cases c28 : q22.1 = q24.1
              · rw [if_pos c28] at h
                refine ds_icmp_eq_t (off := 5) (t := 687) (by decide +kernel) (by decide +kernel) ((gc_eq rfl rfl z26 z27).mpr c28) ?_
                refine ds_aload_n (k := 1) (p := 688) (by decide +kernel) rfl rfl ?_
                obtain ⟨q29, w30, h⟩ := fx_bd h
                refine ds_callV (idx := 245) (mj := 94) (ci := 9) (na := 0) (mx := 1) (p := 691) (args := [.ref 0]) (rest := []) (al2 := [some (.ref 0)]) (S2 := (q29.2, δ)) (by decide +kernel) rfl (by decide +kernel) (Or.inl ⟨_, rfl, Or.inr fo_0⟩) rfl rfl rfl rfl rfl rfl (by omega) (fun d' hd' => dx_cls (fe_94 (by omega) (gf_94 rfl w30))) rfl ?_
                refine ds_bipush (n := 7) (p := 693) (by decide +kernel) rfl dkb_7 ?_
                refine ds_iload (k := 14) (p := 695) (by decide +kernel) rfl rfl ?_
                obtain ⟨z31, h⟩ := fx_gd h
                refine ds_min (idx := 248) (p := 698) (c := Int32.ofInt (if x14 < 7 then x14 else 7)) (by decide +kernel) rfl (by decide +kernel) rfl (ga_lt_ite rfl rfl (by decide) z31) ?_
                obtain ⟨z32, h⟩ := fx_gd h
                obtain ⟨z33, h⟩ := fx_gd h
                by_cases c34 : ¬ q29.1 = (if x14 < 7 then x14 else 7)
                · rw [if_pos c34] at h
                  refine ds_icmp_ne_t (off := 15) (t := 713) (by decide +kernel) (by decide +kernel) ((gc_ne rfl rfl z32 z33).mpr c34) ?_
                  refine ds_iconst (n := 0) (p := 714) (by decide +kernel) rfl rfl ?_
                  have h := Option.some.inj h
                  subst h
                  exact ds_iret (by decide +kernel) rt_236 (by decide +kernel)
                · rw [if_neg c34] at h
                  refine ds_icmp_ne_f (off := 15) (t := 713) (p := 701) (by decide +kernel) (by decide +kernel) rfl (fun q => c34 ((gc_ne rfl rfl z32 z33).mp q)) ?_
                  refine ds_aload_n (k := 1) (p := 702) (by decide +kernel) rfl rfl ?_
                  obtain ⟨q35, w36, h⟩ := fx_bd h
                  refine ds_callS (idx := 230) (mj := 252) (na := 1) (mx := 4) (p := 705) (args := [.ref 0]) (rest := []) (al2 := [some (.ref 0), none, none, none]) (S2 := q35.2) (by decide +kernel) rfl (by decide +kernel) rfl rfl rfl rfl rfl rfl (by omega) (fun d' hd' => de_252 hz (by omega) w36) rfl ?_
                  refine ds_aload (k := 13) (p := 707) (by decide +kernel) rfl rfl ?_
                  obtain ⟨z39, h⟩ := fx_gd h
                  obtain ⟨q37, w38, h⟩ := fx_bd h
                  refine ds_callV (idx := 253) (mj := 280) (ci := 12) (na := 1) (mx := 3) (p := 710) (args := [.ref q35.1, .ref x13]) (rest := []) (al2 := [some (.ref q35.1), some (.ref x13), none]) (S2 := q37.2) (by decide +kernel) rfl (by decide +kernel) (Or.inl ⟨_, rfl, Or.inl z39⟩) rfl rfl rfl rfl rfl rfl (by omega) (fun d' hd' => de_280 hz (by omega) w38) rfl ?_
                  obtain ⟨z40, h⟩ := fx_gd h
                  by_cases c41 : ¬ q37.1 = 0
                  · rw [if_pos c41] at h
                    refine ds_if_ne_t (off := 5) (t := 715) (by decide +kernel) (by decide +kernel) ((gc_ne rfl rfl z40 (by decide)).mpr c41) ?_
                    refine ds_aload_n (k := 1) (p := 716) (by decide +kernel) rfl rfl ?_
                    refine ds_bipush (n := 8) (p := 718) (by decide +kernel) rfl dkb_8 ?_
                    obtain ⟨q42, w43, h⟩ := fx_bd h
                    refine ds_callV (idx := 149) (mj := 111) (ci := 9) (na := 1) (mx := 2) (p := 721) (args := [.ref 0, .int (Int32.ofInt 8)]) (rest := []) (al2 := [some (.ref 0), some (.int (Int32.ofInt 8))]) (S2 := (q42.2, q37.2.2)) (by decide +kernel) rfl (by decide +kernel) (Or.inl ⟨_, rfl, Or.inr fo_0⟩) rfl rfl rfl rfl rfl rfl (by omega) (fun d' hd' => dx_cls (fe_111 (by omega) (gf_111 rfl rfl w43))) rfl ?_
                    refine ds_istore (k := 15) (p := 723) (M := 18) (al' := [o0, some (.ref 0), o2, some (.ref x3), o4, o5, o6, none, o8, none, o10, o11, none, some (.ref x13), some (.int (Int32.ofInt x14)), some (.int (Int32.ofInt q42.1)), o16, o17]) (by decide +kernel) rfl mx_236 rfl rfl ?_
                    exact de_236_723 hz hd 100000 _ _ _ _ _ _ _ _ _ _ _ _ _ _ _ _ _ h
                  · rw [if_neg c41] at h
                    refine ds_if_ne_f (off := 5) (t := 715) (p := 713) (by decide +kernel) (by decide +kernel) rfl (fun q => c41 ((gc_ne rfl rfl z40 (by decide)).mp q)) ?_
                    refine ds_iconst (n := 0) (p := 714) (by decide +kernel) rfl rfl ?_
                    have h := Option.some.inj h
                    subst h
                    exact ds_iret (by decide +kernel) rt_236 (by decide +kernel)
              · rw [if_neg c28] at h
                refine ds_icmp_eq_f (off := 5) (t := 687) (p := 685) (by decide +kernel) (by decide +kernel) rfl (fun q => c28 ((gc_eq rfl rfl z26 z27).mp q)) ?_
                refine ds_iconst (n := 0) (p := 686) (by decide +kernel) rfl rfl ?_
                have h := Option.some.inj h
                subst h
                exact ds_iret (by decide +kernel) rt_236 (by decide +kernel)
    · rw [if_neg c2] at h
      refine ds_icmp_ge_f (off := 67) (t := 635) (p := 571) (by decide +kernel) (by decide +kernel) rfl (fun q => c2 ((gc_le rfl rfl (by decide) z1).mp q)) ?_
      refine ds_aload_n (k := 1) (p := 572) (by decide +kernel) rfl rfl ?_
      refine ds_aload_n (k := 3) (p := 573) (by decide +kernel) rfl rfl ?_
      refine ds_iload (k := 15) (p := 575) (by decide +kernel) rfl rfl ?_
      obtain ⟨q44, w45, h⟩ := fx_bd h
      refine ds_callS (idx := 220) (mj := 254) (na := 3) (mx := 23) (p := 578) (args := [.ref 0, .ref x3, .int (Int32.ofInt x15)]) (rest := []) (al2 := [some (.ref 0), some (.ref x3), some (.int (Int32.ofInt x15)), none, none, none, none, none, none, none, none, none, none, none, none, none, none, none, none, none, none, none, none]) (S2 := q44.2) (by decide +kernel) rfl (by decide +kernel) rfl rfl rfl rfl rfl rfl (by omega) (fun d' hd' => de_254 hz (by omega) w45) rfl ?_
      obtain ⟨z46, h⟩ := fx_gd h
      by_cases c47 : ¬ q44.1 = 0
      · rw [if_pos c47] at h
        refine ds_if_ne_t (off := 5) (t := 583) (by decide +kernel) (by decide +kernel) ((gc_ne rfl rfl z46 (by decide)).mpr c47) ?_
        refine ds_aload_n (k := 3) (p := 584) (by decide +kernel) rfl rfl ?_
        refine ds_iload (k := 15) (p := 586) (by decide +kernel) rfl rfl ?_
        obtain ⟨q48, w49, h⟩ := fx_bd h
        refine ds_callS (idx := 151) (mj := 248) (na := 2) (mx := 7) (p := 589) (args := [.ref x3, .int (Int32.ofInt x15)]) (rest := []) (al2 := [some (.ref x3), some (.int (Int32.ofInt x15)), none, none, none, none, none]) (S2 := q48.2) (by decide +kernel) rfl (by decide +kernel) rfl rfl rfl rfl rfl rfl (by omega) (fun d' hd' => de_248 hz (by omega) w49) rfl ?_
        refine ds_astore (k := 16) (p := 591) (M := 18) (al' := [o0, some (.ref 0), o2, some (.ref x3), o4, o5, o6, none, o8, none, o10, o11, none, some (.ref x13), some (.int (Int32.ofInt x14)), some (.int (Int32.ofInt x15)), some (.ref q48.1), o17]) (by decide +kernel) rfl mx_236 rfl rfl ?_
        refine ds_iconst (n := 0) (p := 592) (by decide +kernel) rfl rfl ?_
        refine ds_istore (k := 17) (p := 594) (M := 18) (al' := [o0, some (.ref 0), o2, some (.ref x3), o4, o5, o6, none, o8, none, o10, o11, none, some (.ref x13), some (.int (Int32.ofInt x14)), some (.int (Int32.ofInt x15)), some (.ref q48.1), some (.int (Int32.ofInt 0))]) (by decide +kernel) rfl mx_236 rfl rfl ?_
        exact de_236_594 hz hd ih 100000 _ _ _ _ _ _ _ _ _ _ _ _ _ _ _ _ _ h
      · rw [if_neg c47] at h
        refine ds_if_ne_f (off := 5) (t := 583) (p := 581) (by decide +kernel) (by decide +kernel) rfl (fun q => c47 ((gc_ne rfl rfl z46 (by decide)).mp q)) ?_
        refine ds_iconst (n := 0) (p := 582) (by decide +kernel) rfl rfl ?_
        have h := Option.some.inj h
        subst h
        exact ds_iret (by decide +kernel) rt_236 (by decide +kernel)
def dm_236_507 (L : Nat) (xs : Nat → Int32) (k_498 : Nat → Nat → Nat → Int → Int → gx_S → dS → Option (Int × DS)) : Nat → Nat → Nat → Nat → Int → Int → Int → gx_S → dS → Option (Int × DS)
  | 0, _, _, _, _, _, _, _, _ => none
  | n + 1, x3, x10, x13, x14, x15, x16, s, δ =>
    if (-2147483648 ≤ x16 ∧ x16 ≤ 2147483647) then (
    if 9 ≤ x16 then (
      k_498 x3 x10 x13 x14 (x15 + 1) s δ) else (
      if dO δ x3 10 then (
      (δ.P x3 7).bind fun v4 =>
      if dA δ 6 v4 then (
      if dI δ v4 x15 then (
      (δ.P v4 ((x15).toNat)).bind fun v8 =>
      if dA δ 1 x10 then (
      if dI δ x10 ((9 * x15) + x16) then (
      if dA δ 0 v8 then (
      if dI δ v8 x16 then (
      (some (δ.w v8 ((x16).toNat) (δ.I x10 ((((9 * x15) + x16)).toNat)))).bind fun t14 =>
      dm_236_507 L xs k_498 n x3 x10 x13 x14 x15 (x16 + 1) s t14) else none) else none) else none) else none) else none) else none) else none)) else none
theorem de_236_507 {z : iv_Z} {L : Nat} {xs : Nat → Int32} (hz : dZ z L xs) {d : Nat} (hd : 103 ≤ d) {k_498 : Nat → Nat → Nat → Int → Int → gx_S → dS → Option (Int × DS)} (hk_498 : ∀ (x3 : Nat) (x10 : Nat) (x13 : Nat) (x14 : Int) (x15 : Int) (o0 : Option Value) (o2 : Option Value) (o4 : Option Value) (o5 : Option Value) (o6 : Option Value) (o8 : Option Value) (o11 : Option Value) (o16 : Option Value) (s : gx_S) (δ : dS) (q : Int × DS), k_498 x3 x10 x13 x14 x15 s δ = some q → dE z 236 d 498 [o0, some (.ref 0), o2, some (.ref x3), o4, o5, o6, none, o8, none, some (.ref x10), o11, none, some (.ref x13), some (.int (Int32.ofInt x14)), some (.int (Int32.ofInt x15)), o16, none] [] (s, δ) (some (.int (Int32.ofInt q.1))) q.2) : ∀ (n : Nat) (x3 : Nat) (x10 : Nat) (x13 : Nat) (x14 : Int) (x15 : Int) (x16 : Int) (o0 : Option Value) (o2 : Option Value) (o4 : Option Value) (o5 : Option Value) (o6 : Option Value) (o8 : Option Value) (o11 : Option Value) (s : gx_S) (δ : dS) (q : Int × DS), dm_236_507 L xs k_498 n x3 x10 x13 x14 x15 x16 s δ = some q → dE z 236 d 507 [o0, some (.ref 0), o2, some (.ref x3), o4, o5, o6, none, o8, none, some (.ref x10), o11, none, some (.ref x13), some (.int (Int32.ofInt x14)), some (.int (Int32.ofInt x15)), some (.int (Int32.ofInt x16)), none] [] (s, δ) (some (.int (Int32.ofInt q.1))) q.2 := by
  intro n
  induction n with
  | zero =>
    intro x3 x10 x13 x14 x15 x16 o0 o2 o4 o5 o6 o8 o11 s δ q h
    rw [dm_236_507] at h
    exact fx_no h
  | succ n ih =>
    intro x3 x10 x13 x14 x15 x16 o0 o2 o4 o5 o6 o8 o11 s δ q h
    rw [dm_236_507] at h
    refine ds_iload (k := 16) (p := 509) (by decide +kernel) rfl rfl ?_
    refine ds_bipush (n := 9) (p := 511) (by decide +kernel) rfl dkb_9 ?_
    obtain ⟨z1, h⟩ := fx_gd h
    by_cases c2 : 9 ≤ x16
    · rw [if_pos c2] at h
      refine ds_icmp_ge_t (off := 31) (t := 542) (by decide +kernel) (by decide +kernel) ((gc_le rfl rfl (by decide) z1).mpr c2) ?_
      refine ds_iinc (k := 15) (n := 1) (p := 545) (M := 18) (y := Int32.ofInt (x15 + 1)) (al' := [o0, some (.ref 0), o2, some (.ref x3), o4, o5, o6, none, o8, none, some (.ref x10), o11, none, some (.ref x13), some (.int (Int32.ofInt x14)), some (.int (Int32.ofInt (x15 + 1))), some (.int (Int32.ofInt x16)), none]) (by decide +kernel) rfl rfl mx_236 rfl rfl (ga_add rfl rfl) rfl ?_
      refine ds_goto (off := -47) (p := 498) (by decide +kernel) (by decide +kernel) ?_
      exact hk_498 _ _ _ _ _ _ _ _ _ _ _ _ _ _ _ _ h
    · rw [if_neg c2] at h
      refine ds_icmp_ge_f (off := 31) (t := 542) (p := 514) (by decide +kernel) (by decide +kernel) rfl (fun q => c2 ((gc_le rfl rfl (by decide) z1).mp q)) ?_
      refine ds_aload_n (k := 3) (p := 515) (by decide +kernel) rfl rfl ?_
      obtain ⟨z3, h⟩ := fx_gd h
      obtain ⟨v4, w5, h⟩ := fx_bd h
      refine ds_gfr (idx := 79) (ci := 10) (j := 7) (p := 518) (by decide +kernel) rfl (by decide +kernel) z3 w5 ?_
      refine ds_iload (k := 15) (p := 520) (by decide +kernel) rfl rfl ?_
      obtain ⟨z6, h⟩ := fx_gd h
      obtain ⟨z7, h⟩ := fx_gd h
      obtain ⟨v8, w9, h⟩ := fx_bd h
      refine ds_aaload (t := 6) (p := 521) (by decide +kernel) rfl (by decide +kernel) z6 z7 w9 ?_
      refine ds_iload (k := 16) (p := 523) (by decide +kernel) rfl rfl ?_
      refine ds_aload (k := 10) (p := 525) (by decide +kernel) rfl rfl ?_
      refine ds_bipush (n := 9) (p := 527) (by decide +kernel) rfl dkb_9 ?_
      refine ds_iload (k := 15) (p := 529) (by decide +kernel) rfl rfl ?_
      refine ds_imul (p := 530) (c := Int32.ofInt (9 * x15)) (by decide +kernel) rfl (ga_mul rfl rfl) ?_
      refine ds_iload (k := 16) (p := 532) (by decide +kernel) rfl rfl ?_
      refine ds_iadd (p := 533) (c := Int32.ofInt ((9 * x15) + x16)) (by decide +kernel) rfl (ga_add rfl rfl) ?_
      obtain ⟨z10, h⟩ := fx_gd h
      obtain ⟨z11, h⟩ := fx_gd h
      refine ds_laload (p := 534) (by decide +kernel) rfl z10 z11 ?_
      refine ds_l2i (p := 535) (c := Int32.ofInt (δ.I x10 ((((9 * x15) + x16)).toNat))) (by decide +kernel) rfl (ga_l2i rfl) ?_
      obtain ⟨z12, h⟩ := fx_gd h
      obtain ⟨z13, h⟩ := fx_gd h
      obtain ⟨t14, w15, h⟩ := fx_bd h
      refine ds_iastore (p := 536) (by decide +kernel) rfl z12 z13 ?_
      rw [Option.some.inj w15]
      refine ds_iinc (k := 16) (n := 1) (p := 539) (M := 18) (y := Int32.ofInt (x16 + 1)) (al' := [o0, some (.ref 0), o2, some (.ref x3), o4, o5, o6, none, o8, none, some (.ref x10), o11, none, some (.ref x13), some (.int (Int32.ofInt x14)), some (.int (Int32.ofInt x15)), some (.int (Int32.ofInt (x16 + 1))), none]) (by decide +kernel) rfl rfl mx_236 rfl rfl (ga_add rfl rfl) rfl ?_
      refine ds_goto (off := -32) (p := 507) (by decide +kernel) (by decide +kernel) ?_
      exact ih _ _ _ _ _ _ _ _ _ _ _ _ _ _ _ _ h
def dm_236_498 (L : Nat) (xs : Nat → Int32) : Nat → Nat → Nat → Nat → Int → Int → gx_S → dS → Option (Int × DS)
  | 0, _, _, _, _, _, _, _ => none
  | n + 1, x3, x10, x13, x14, x15, s, δ =>
    if (-2147483648 ≤ x15 ∧ x15 ≤ 2147483647) then (
    if 3 ≤ x15 then (
      if dO δ x3 10 then (
      (δ.P x3 5).bind fun v4 =>
      if dA δ 0 v4 then (
      (some (δ.cl v4)).bind fun t7 =>
      if dA t7 0 δ.n then (
      if dO t7 x3 10 then (
      (some (t7.r x3 4 (some δ.n))).bind fun t11 =>
      dm_236_565 L xs 100000 x3 x13 x14 0 s t11) else none) else none) else none) else none) else (
      dm_236_507 L xs (dm_236_498 L xs n) 100000 x3 x10 x13 x14 x15 0 s δ)) else none
theorem de_236_498 {z : iv_Z} {L : Nat} {xs : Nat → Int32} (hz : dZ z L xs) {d : Nat} (hd : 103 ≤ d) : ∀ (n : Nat) (x3 : Nat) (x10 : Nat) (x13 : Nat) (x14 : Int) (x15 : Int) (o0 : Option Value) (o2 : Option Value) (o4 : Option Value) (o5 : Option Value) (o6 : Option Value) (o8 : Option Value) (o11 : Option Value) (o16 : Option Value) (s : gx_S) (δ : dS) (q : Int × DS), dm_236_498 L xs n x3 x10 x13 x14 x15 s δ = some q → dE z 236 d 498 [o0, some (.ref 0), o2, some (.ref x3), o4, o5, o6, none, o8, none, some (.ref x10), o11, none, some (.ref x13), some (.int (Int32.ofInt x14)), some (.int (Int32.ofInt x15)), o16, none] [] (s, δ) (some (.int (Int32.ofInt q.1))) q.2 := by
  intro n
  induction n with
  | zero =>
    intro x3 x10 x13 x14 x15 o0 o2 o4 o5 o6 o8 o11 o16 s δ q h
    rw [dm_236_498] at h
    exact fx_no h
  | succ n ih =>
    intro x3 x10 x13 x14 x15 o0 o2 o4 o5 o6 o8 o11 o16 s δ q h
    rw [dm_236_498] at h
    refine ds_iload (k := 15) (p := 500) (by decide +kernel) rfl rfl ?_
    refine ds_iconst (n := 3) (p := 501) (by decide +kernel) rfl rfl ?_
    obtain ⟨z1, h⟩ := fx_gd h
    by_cases c2 : 3 ≤ x15
    · rw [if_pos c2] at h
      refine ds_icmp_ge_t (off := 47) (t := 548) (by decide +kernel) (by decide +kernel) ((gc_le rfl rfl (by decide) z1).mpr c2) ?_
      refine ds_aload_n (k := 3) (p := 549) (by decide +kernel) rfl rfl ?_
      refine ds_aload_n (k := 3) (p := 550) (by decide +kernel) rfl rfl ?_
      obtain ⟨z3, h⟩ := fx_gd h
      obtain ⟨v4, w5, h⟩ := fx_bd h
      refine ds_gfr (idx := 59) (ci := 10) (j := 5) (p := 553) (by decide +kernel) rfl (by decide +kernel) z3 w5 ?_
      obtain ⟨z6, h⟩ := fx_gd h
      obtain ⟨t7, w8, h⟩ := fx_bd h
      refine ds_clone (idx := 237) (t := 0) (p := 556) (by decide +kernel) rfl (by decide) (by decide +kernel) rfl z6 ?_
      rw [Option.some.inj w8]
      obtain ⟨z9, h⟩ := fx_gd h
      refine ds_castA (idx := 238) (t := 0) (p := 559) (by decide +kernel) rfl (by decide +kernel) (by decide) z9 ?_
      obtain ⟨z10, h⟩ := fx_gd h
      obtain ⟨t11, w12, h⟩ := fx_bd h
      refine ds_pfr (idx := 55) (ci := 10) (j := 4) (p := 562) (by decide +kernel) rfl (by decide +kernel) (by decide +kernel) z10 (dok_r (by decide +kernel)) ?_
      rw [Option.some.inj w12]
      refine ds_iconst (n := 0) (p := 563) (by decide +kernel) rfl rfl ?_
      refine ds_istore (k := 15) (p := 565) (M := 18) (al' := [o0, some (.ref 0), o2, some (.ref x3), o4, o5, o6, none, o8, none, some (.ref x10), o11, none, some (.ref x13), some (.int (Int32.ofInt x14)), some (.int (Int32.ofInt 0)), o16, none]) (by decide +kernel) rfl mx_236 rfl rfl ?_
      exact de_236_565 hz hd 100000 _ _ _ _ _ _ _ _ _ _ _ _ _ _ _ _ _ h
    · rw [if_neg c2] at h
      refine ds_icmp_ge_f (off := 47) (t := 548) (p := 504) (by decide +kernel) (by decide +kernel) rfl (fun q => c2 ((gc_le rfl rfl (by decide) z1).mp q)) ?_
      refine ds_iconst (n := 0) (p := 505) (by decide +kernel) rfl rfl ?_
      refine ds_istore (k := 16) (p := 507) (M := 18) (al' := [o0, some (.ref 0), o2, some (.ref x3), o4, o5, o6, none, o8, none, some (.ref x10), o11, none, some (.ref x13), some (.int (Int32.ofInt x14)), some (.int (Int32.ofInt x15)), some (.int (Int32.ofInt 0)), none]) (by decide +kernel) rfl mx_236 rfl rfl ?_
      exact de_236_507 hz hd ih 100000 _ _ _ _ _ _ _ _ _ _ _ _ _ _ _ _ h
def dm_236_406 (L : Nat) (xs : Nat → Int32) (k_317 : Nat → Int → Int → Nat → Int → Int → gx_S → dS → Option (Int × DS)) : Nat → Nat → Int → Int → Nat → Int → Int → Int → gx_S → dS → Option (Int × DS)
  | 0, _, _, _, _, _, _, _, _, _ => none
  | n + 1, x3, x6, x8, x10, x11, x13, x14, s, δ =>
    if (-2147483648 ≤ x14 ∧ x14 ≤ 2147483647) then (
    if 8 ≤ x14 then (
      k_317 x3 x6 x8 x10 x11 (x13 + 1) s δ) else (
      (gm_99 x13 (-1) x14 s).bind fun q3 =>
      if (-2147483648 ≤ q3.1 ∧ q3.1 ≤ 2147483647) then (
      dm_236_406 L xs k_317 n x3 x6 x8 x10 (x11 + q3.1) x13 (x14 + 1) q3.2 δ) else none)) else none
theorem de_236_406 {z : iv_Z} {L : Nat} {xs : Nat → Int32} (hz : dZ z L xs) {d : Nat} (hd : 103 ≤ d) {k_317 : Nat → Int → Int → Nat → Int → Int → gx_S → dS → Option (Int × DS)} (hk_317 : ∀ (x3 : Nat) (x6 : Int) (x8 : Int) (x10 : Nat) (x11 : Int) (x13 : Int) (o0 : Option Value) (o2 : Option Value) (o4 : Option Value) (o5 : Option Value) (o14 : Option Value) (s : gx_S) (δ : dS) (q : Int × DS), k_317 x3 x6 x8 x10 x11 x13 s δ = some q → dE z 236 d 317 [o0, some (.ref 0), o2, some (.ref x3), o4, o5, some (.long (Int64.ofInt x6)), none, some (.long (Int64.ofInt x8)), none, some (.ref x10), some (.long (Int64.ofInt x11)), none, some (.int (Int32.ofInt x13)), o14, none, none, none] [] (s, δ) (some (.int (Int32.ofInt q.1))) q.2) : ∀ (n : Nat) (x3 : Nat) (x6 : Int) (x8 : Int) (x10 : Nat) (x11 : Int) (x13 : Int) (x14 : Int) (o0 : Option Value) (o2 : Option Value) (o4 : Option Value) (o5 : Option Value) (s : gx_S) (δ : dS) (q : Int × DS), dm_236_406 L xs k_317 n x3 x6 x8 x10 x11 x13 x14 s δ = some q → dE z 236 d 406 [o0, some (.ref 0), o2, some (.ref x3), o4, o5, some (.long (Int64.ofInt x6)), none, some (.long (Int64.ofInt x8)), none, some (.ref x10), some (.long (Int64.ofInt x11)), none, some (.int (Int32.ofInt x13)), some (.int (Int32.ofInt x14)), none, none, none] [] (s, δ) (some (.int (Int32.ofInt q.1))) q.2 := by
  intro n
  induction n with
  | zero =>
    intro x3 x6 x8 x10 x11 x13 x14 o0 o2 o4 o5 s δ q h
    rw [dm_236_406] at h
    exact fx_no h
  | succ n ih =>
    intro x3 x6 x8 x10 x11 x13 x14 o0 o2 o4 o5 s δ q h
    rw [dm_236_406] at h
    refine ds_iload (k := 14) (p := 408) (by decide +kernel) rfl rfl ?_
    refine ds_bipush (n := 8) (p := 410) (by decide +kernel) rfl dkb_8 ?_
    obtain ⟨z1, h⟩ := fx_gd h
    by_cases c2 : 8 ≤ x14
    · rw [if_pos c2] at h
      refine ds_icmp_ge_t (off := 24) (t := 434) (by decide +kernel) (by decide +kernel) ((gc_le rfl rfl (by decide) z1).mpr c2) ?_
      refine ds_iinc (k := 13) (n := 1) (p := 437) (M := 18) (y := Int32.ofInt (x13 + 1)) (al' := [o0, some (.ref 0), o2, some (.ref x3), o4, o5, some (.long (Int64.ofInt x6)), none, some (.long (Int64.ofInt x8)), none, some (.ref x10), some (.long (Int64.ofInt x11)), none, some (.int (Int32.ofInt (x13 + 1))), some (.int (Int32.ofInt x14)), none, none, none]) (by decide +kernel) rfl rfl mx_236 rfl rfl (ga_add rfl rfl) rfl ?_
      refine ds_goto (off := -120) (p := 317) (by decide +kernel) (by decide +kernel) ?_
      exact hk_317 _ _ _ _ _ _ _ _ _ _ _ _ _ _ h
    · rw [if_neg c2] at h
      refine ds_icmp_ge_f (off := 24) (t := 434) (p := 413) (by decide +kernel) (by decide +kernel) rfl (fun q => c2 ((gc_le rfl rfl (by decide) z1).mp q)) ?_
      refine ds_lload (k := 11) (p := 415) (by decide +kernel) rfl rfl ?_
      refine ds_aload_n (k := 1) (p := 416) (by decide +kernel) rfl rfl ?_
      refine ds_iload (k := 13) (p := 418) (by decide +kernel) rfl rfl ?_
      refine ds_iconst (n := -1) (p := 419) (by decide +kernel) rfl rfl ?_
      refine ds_iload (k := 14) (p := 421) (by decide +kernel) rfl rfl ?_
      obtain ⟨q3, w4, h⟩ := fx_bd h
      refine ds_callV (idx := 163) (mj := 99) (ci := 9) (na := 3) (mx := 12) (p := 424) (args := [.ref 0, .int (Int32.ofInt x13), .int (Int32.ofInt (-1)), .int (Int32.ofInt x14)]) (rest := [.long (Int64.ofInt x11)]) (al2 := [some (.ref 0), some (.int (Int32.ofInt x13)), some (.int (Int32.ofInt (-1))), some (.int (Int32.ofInt x14)), none, none, none, none, none, none, none, none]) (S2 := (q3.2, δ)) (by decide +kernel) rfl (by decide +kernel) (Or.inl ⟨_, rfl, Or.inr fo_0⟩) rfl rfl rfl rfl rfl rfl (by omega) (fun d' hd' => dx_cls (fe_99 (by omega) (gf_99 rfl rfl rfl rfl w4))) rfl ?_
      obtain ⟨z5, h⟩ := fx_gd h
      refine ds_i2l (p := 425) (c := Int64.ofInt q3.1) (by decide +kernel) rfl (ga_i2l rfl z5) ?_
      refine ds_ladd (p := 426) (c := Int64.ofInt (x11 + q3.1)) (by decide +kernel) rfl (gal_add rfl rfl) ?_
      refine ds_lstore (k := 11) (p := 428) (M := 18) (al' := [o0, some (.ref 0), o2, some (.ref x3), o4, o5, some (.long (Int64.ofInt x6)), none, some (.long (Int64.ofInt x8)), none, some (.ref x10), some (.long (Int64.ofInt (x11 + q3.1))), none, some (.int (Int32.ofInt x13)), some (.int (Int32.ofInt x14)), none, none, none]) (by decide +kernel) rfl mx_236 rfl rfl ?_
      refine ds_iinc (k := 14) (n := 1) (p := 431) (M := 18) (y := Int32.ofInt (x14 + 1)) (al' := [o0, some (.ref 0), o2, some (.ref x3), o4, o5, some (.long (Int64.ofInt x6)), none, some (.long (Int64.ofInt x8)), none, some (.ref x10), some (.long (Int64.ofInt (x11 + q3.1))), none, some (.int (Int32.ofInt x13)), some (.int (Int32.ofInt (x14 + 1))), none, none, none]) (by decide +kernel) rfl rfl mx_236 rfl rfl (ga_add rfl rfl) rfl ?_
      refine ds_goto (off := -25) (p := 406) (by decide +kernel) (by decide +kernel) ?_
      exact ih _ _ _ _ _ _ _ _ _ _ _ _ _ _ h
def dm_236_395 (L : Nat) (xs : Nat → Int32) (k_351 : Nat → Int → Int → Nat → Int → Int → Int → gx_S → dS → Option (Int × DS)) (x3 : Nat) (x6 : Int) (x8 : Int) (x10 : Nat) (x11 : Int) (x13 : Int) (x14 : Int) (s0 : Nat) (s1 : Int) (s2 : Int) (s3 : Int) (s : gx_S) (δ : dS) : Option (Int × DS) :=
  if dA δ 1 s0 then (
  if dI δ s0 s1 then (
  (some (δ.w s0 ((s1).toNat) (s2 + s3))).bind fun t3 =>
  k_351 x3 x6 x8 x10 x11 x13 (x14 + 1) s t3) else none) else none
theorem de_236_395 {z : iv_Z} {L : Nat} {xs : Nat → Int32} (hz : dZ z L xs) {d : Nat} (hd : 103 ≤ d) {k_351 : Nat → Int → Int → Nat → Int → Int → Int → gx_S → dS → Option (Int × DS)} (hk_351 : ∀ (x3 : Nat) (x6 : Int) (x8 : Int) (x10 : Nat) (x11 : Int) (x13 : Int) (x14 : Int) (o0 : Option Value) (o2 : Option Value) (o4 : Option Value) (o5 : Option Value) (s : gx_S) (δ : dS) (q : Int × DS), k_351 x3 x6 x8 x10 x11 x13 x14 s δ = some q → dE z 236 d 351 [o0, some (.ref 0), o2, some (.ref x3), o4, o5, some (.long (Int64.ofInt x6)), none, some (.long (Int64.ofInt x8)), none, some (.ref x10), some (.long (Int64.ofInt x11)), none, some (.int (Int32.ofInt x13)), some (.int (Int32.ofInt x14)), none, none, none] [] (s, δ) (some (.int (Int32.ofInt q.1))) q.2) (x3 : Nat) (x6 : Int) (x8 : Int) (x10 : Nat) (x11 : Int) (x13 : Int) (x14 : Int) (s0 : Nat) (s1 : Int) (s2 : Int) (s3 : Int) (o0 : Option Value) (o2 : Option Value) (o4 : Option Value) (o5 : Option Value) (s : gx_S) (δ : dS) (q : Int × DS) (h : dm_236_395 L xs k_351  x3 x6 x8 x10 x11 x13 x14 s0 s1 s2 s3 s δ = some q) : dE z 236 d 395 [o0, some (.ref 0), o2, some (.ref x3), o4, o5, some (.long (Int64.ofInt x6)), none, some (.long (Int64.ofInt x8)), none, some (.ref x10), some (.long (Int64.ofInt x11)), none, some (.int (Int32.ofInt x13)), some (.int (Int32.ofInt x14)), none, none, none] [.long (Int64.ofInt s3), .long (Int64.ofInt s2), .int (Int32.ofInt s1), .ref s0] (s, δ) (some (.int (Int32.ofInt q.1))) q.2 := by
  unfold dm_236_395 at h
  refine ds_ladd (p := 396) (c := Int64.ofInt (s2 + s3)) (by decide +kernel) rfl (gal_add rfl rfl) ?_
  obtain ⟨z1, h⟩ := fx_gd h
  obtain ⟨z2, h⟩ := fx_gd h
  obtain ⟨t3, w4, h⟩ := fx_bd h
  refine ds_lastore (p := 397) (by decide +kernel) rfl z1 z2 ?_
  rw [Option.some.inj w4]
  refine ds_iinc (k := 14) (n := 1) (p := 400) (M := 18) (y := Int32.ofInt (x14 + 1)) (al' := [o0, some (.ref 0), o2, some (.ref x3), o4, o5, some (.long (Int64.ofInt x6)), none, some (.long (Int64.ofInt x8)), none, some (.ref x10), some (.long (Int64.ofInt x11)), none, some (.int (Int32.ofInt x13)), some (.int (Int32.ofInt (x14 + 1))), none, none, none]) (by decide +kernel) rfl rfl mx_236 rfl rfl (ga_add rfl rfl) rfl ?_
  refine ds_goto (off := -49) (p := 351) (by decide +kernel) (by decide +kernel) ?_
  exact hk_351 _ _ _ _ _ _ _ _ _ _ _ _ _ _ h
def dm_236_351 (L : Nat) (xs : Nat → Int32) (k_317 : Nat → Int → Int → Nat → Int → Int → gx_S → dS → Option (Int × DS)) : Nat → Nat → Int → Int → Nat → Int → Int → Int → gx_S → dS → Option (Int × DS)
  | 0, _, _, _, _, _, _, _, _, _ => none
  | n + 1, x3, x6, x8, x10, x11, x13, x14, s, δ =>
    if (-2147483648 ≤ x14 ∧ x14 ≤ 2147483647) then (
    if 9 ≤ x14 then (
      dm_236_406 L xs k_317 100000 x3 x6 x8 x10 x11 x13 0 s δ) else (
      (gm_99 x13 (-1) x14 s).bind fun q3 =>
      if (-2147483648 ≤ q3.1 ∧ q3.1 ≤ 2147483647) then (
      if ¬ x14 = 8 then (
        dm_236_395 L xs (dm_236_351 L xs k_317 n) x3 x6 x8 x10 x11 x13 x14 x10 ((9 * x13) + x14) q3.1 0 q3.2 δ) else (
        (dm_249 L xs x3 x13 q3.2 δ).bind fun q7 =>
        dm_236_395 L xs (dm_236_351 L xs k_317 n) x3 x6 x8 x10 x11 x13 x14 x10 ((9 * x13) + x14) q3.1 q7.1 q7.2.1 q7.2.2)) else none)) else none
theorem de_236_351 {z : iv_Z} {L : Nat} {xs : Nat → Int32} (hz : dZ z L xs) {d : Nat} (hd : 103 ≤ d) {k_317 : Nat → Int → Int → Nat → Int → Int → gx_S → dS → Option (Int × DS)} (hk_317 : ∀ (x3 : Nat) (x6 : Int) (x8 : Int) (x10 : Nat) (x11 : Int) (x13 : Int) (o0 : Option Value) (o2 : Option Value) (o4 : Option Value) (o5 : Option Value) (o14 : Option Value) (s : gx_S) (δ : dS) (q : Int × DS), k_317 x3 x6 x8 x10 x11 x13 s δ = some q → dE z 236 d 317 [o0, some (.ref 0), o2, some (.ref x3), o4, o5, some (.long (Int64.ofInt x6)), none, some (.long (Int64.ofInt x8)), none, some (.ref x10), some (.long (Int64.ofInt x11)), none, some (.int (Int32.ofInt x13)), o14, none, none, none] [] (s, δ) (some (.int (Int32.ofInt q.1))) q.2) : ∀ (n : Nat) (x3 : Nat) (x6 : Int) (x8 : Int) (x10 : Nat) (x11 : Int) (x13 : Int) (x14 : Int) (o0 : Option Value) (o2 : Option Value) (o4 : Option Value) (o5 : Option Value) (s : gx_S) (δ : dS) (q : Int × DS), dm_236_351 L xs k_317 n x3 x6 x8 x10 x11 x13 x14 s δ = some q → dE z 236 d 351 [o0, some (.ref 0), o2, some (.ref x3), o4, o5, some (.long (Int64.ofInt x6)), none, some (.long (Int64.ofInt x8)), none, some (.ref x10), some (.long (Int64.ofInt x11)), none, some (.int (Int32.ofInt x13)), some (.int (Int32.ofInt x14)), none, none, none] [] (s, δ) (some (.int (Int32.ofInt q.1))) q.2 := by
  intro n
  induction n with
  | zero =>
    intro x3 x6 x8 x10 x11 x13 x14 o0 o2 o4 o5 s δ q h
    rw [dm_236_351] at h
    exact fx_no h
  | succ n ih =>
    intro x3 x6 x8 x10 x11 x13 x14 o0 o2 o4 o5 s δ q h
    rw [dm_236_351] at h
    refine ds_iload (k := 14) (p := 353) (by decide +kernel) rfl rfl ?_
    refine ds_bipush (n := 9) (p := 355) (by decide +kernel) rfl dkb_9 ?_
    obtain ⟨z1, h⟩ := fx_gd h
    by_cases c2 : 9 ≤ x14
    · rw [if_pos c2] at h
      refine ds_icmp_ge_t (off := 48) (t := 403) (by decide +kernel) (by decide +kernel) ((gc_le rfl rfl (by decide) z1).mpr c2) ?_
      refine ds_iconst (n := 0) (p := 404) (by decide +kernel) rfl rfl ?_
      refine ds_istore (k := 14) (p := 406) (M := 18) (al' := [o0, some (.ref 0), o2, some (.ref x3), o4, o5, some (.long (Int64.ofInt x6)), none, some (.long (Int64.ofInt x8)), none, some (.ref x10), some (.long (Int64.ofInt x11)), none, some (.int (Int32.ofInt x13)), some (.int (Int32.ofInt 0)), none, none, none]) (by decide +kernel) rfl mx_236 rfl rfl ?_
      exact de_236_406 hz hd hk_317 100000 _ _ _ _ _ _ _ _ _ _ _ _ _ _ h
    · rw [if_neg c2] at h
      refine ds_icmp_ge_f (off := 48) (t := 403) (p := 358) (by decide +kernel) (by decide +kernel) rfl (fun q => c2 ((gc_le rfl rfl (by decide) z1).mp q)) ?_
      refine ds_aload (k := 10) (p := 360) (by decide +kernel) rfl rfl ?_
      refine ds_bipush (n := 9) (p := 362) (by decide +kernel) rfl dkb_9 ?_
      refine ds_iload (k := 13) (p := 364) (by decide +kernel) rfl rfl ?_
      refine ds_imul (p := 365) (c := Int32.ofInt (9 * x13)) (by decide +kernel) rfl (ga_mul rfl rfl) ?_
      refine ds_iload (k := 14) (p := 367) (by decide +kernel) rfl rfl ?_
      refine ds_iadd (p := 368) (c := Int32.ofInt ((9 * x13) + x14)) (by decide +kernel) rfl (ga_add rfl rfl) ?_
      refine ds_aload_n (k := 1) (p := 369) (by decide +kernel) rfl rfl ?_
      refine ds_iload (k := 13) (p := 371) (by decide +kernel) rfl rfl ?_
      refine ds_iconst (n := -1) (p := 372) (by decide +kernel) rfl rfl ?_
      refine ds_iload (k := 14) (p := 374) (by decide +kernel) rfl rfl ?_
      obtain ⟨q3, w4, h⟩ := fx_bd h
      refine ds_callV (idx := 163) (mj := 99) (ci := 9) (na := 3) (mx := 12) (p := 377) (args := [.ref 0, .int (Int32.ofInt x13), .int (Int32.ofInt (-1)), .int (Int32.ofInt x14)]) (rest := [.int (Int32.ofInt ((9 * x13) + x14)), .ref x10]) (al2 := [some (.ref 0), some (.int (Int32.ofInt x13)), some (.int (Int32.ofInt (-1))), some (.int (Int32.ofInt x14)), none, none, none, none, none, none, none, none]) (S2 := (q3.2, δ)) (by decide +kernel) rfl (by decide +kernel) (Or.inl ⟨_, rfl, Or.inr fo_0⟩) rfl rfl rfl rfl rfl rfl (by omega) (fun d' hd' => dx_cls (fe_99 (by omega) (gf_99 rfl rfl rfl rfl w4))) rfl ?_
      obtain ⟨z5, h⟩ := fx_gd h
      refine ds_i2l (p := 378) (c := Int64.ofInt q3.1) (by decide +kernel) rfl (ga_i2l rfl z5) ?_
      refine ds_iload (k := 14) (p := 380) (by decide +kernel) rfl rfl ?_
      refine ds_bipush (n := 8) (p := 382) (by decide +kernel) rfl dkb_8 ?_
      by_cases c6 : ¬ x14 = 8
      · rw [if_pos c6] at h
        refine ds_icmp_ne_t (off := 12) (t := 394) (by decide +kernel) (by decide +kernel) ((gc_ne rfl rfl z1 (by decide)).mpr c6) ?_
        refine ds_lconst (n := 0) (p := 395) (by decide +kernel) rfl dl_0 ?_
        exact de_236_395 hz hd ih _ _ _ _ _ _ _ _ _ _ _ _ _ _ _ _ _ _ h
      · rw [if_neg c6] at h
        refine ds_icmp_ne_f (off := 12) (t := 394) (p := 385) (by decide +kernel) (by decide +kernel) rfl (fun q => c6 ((gc_ne rfl rfl z1 (by decide)).mp q)) ?_
        refine ds_aload_n (k := 3) (p := 386) (by decide +kernel) rfl rfl ?_
        refine ds_iload (k := 13) (p := 388) (by decide +kernel) rfl rfl ?_
        obtain ⟨q7, w8, h⟩ := fx_bd h
        refine ds_callS (idx := 174) (mj := 249) (na := 2) (mx := 2) (p := 391) (args := [.ref x3, .int (Int32.ofInt x13)]) (rest := [.long (Int64.ofInt q3.1), .int (Int32.ofInt ((9 * x13) + x14)), .ref x10]) (al2 := [some (.ref x3), some (.int (Int32.ofInt x13))]) (S2 := q7.2) (by decide +kernel) rfl (by decide +kernel) rfl rfl rfl rfl rfl rfl (by omega) (fun d' hd' => de_249 hz (by omega) w8) rfl ?_
        refine ds_goto (off := 4) (p := 395) (by decide +kernel) (by decide +kernel) ?_
        exact de_236_395 hz hd ih _ _ _ _ _ _ _ _ _ _ _ _ _ _ _ _ _ _ h
def dm_236_317 (L : Nat) (xs : Nat → Int32) : Nat → Nat → Int → Int → Nat → Int → Int → gx_S → dS → Option (Int × DS)
  | 0, _, _, _, _, _, _, _, _ => none
  | n + 1, x3, x6, x8, x10, x11, x13, s, δ =>
    if (-2147483648 ≤ x13 ∧ x13 ≤ 2147483647) then (
    if 3 ≤ x13 then (
      (gm_111 10 s).bind fun q3 =>
      if (-2147483648 ≤ q3.1 ∧ q3.1 ≤ 2147483647) then (
      if (-9223372036854775808 ≤ q3.1 ∧ q3.1 ≤ 9223372036854775807) then (
      if (-9223372036854775808 ≤ x6 ∧ x6 ≤ 9223372036854775807) then (
      if ¬ q3.1 = x6 then (
        some (0, q3.2, δ)) else (
        (gm_111 11 q3.2).bind fun q9 =>
        if (-2147483648 ≤ q9.1 ∧ q9.1 ≤ 2147483647) then (
        if (-9223372036854775808 ≤ q9.1 ∧ q9.1 ≤ 9223372036854775807) then (
        if (-9223372036854775808 ≤ x8 ∧ x8 ≤ 9223372036854775807) then (
        if q9.1 = x8 then (
          (dm_252 L xs q9.2 δ).bind fun q15 =>
          (gm_111 8 q15.2.1).bind fun q17 =>
          (gm_93 q17.2).bind fun q19 =>
          if (-2147483648 ≤ q19.1 ∧ q19.1 ≤ 2147483647) then (
          if (-9223372036854775808 ≤ q19.1 ∧ q19.1 ≤ 9223372036854775807) then (
          if (-9223372036854775808 ≤ x11 ∧ x11 ≤ 9223372036854775807) then (
          if q19.1 = x11 then (
            dm_236_498 L xs 100000 x3 x10 q15.1 q17.1 0 q19.2 q15.2.2) else (
            some (0, q19.2, q15.2.2))) else none) else none) else none) else (
          some (0, q9.2, δ))) else none) else none) else none)) else none) else none) else none) else (
      (gm_99 x13 (-1) (-1) s).bind fun q25 =>
      if (-2147483648 ≤ q25.1 ∧ q25.1 ≤ 2147483647) then (
      (dm_249 L xs x3 x13 q25.2 δ).bind fun q28 =>
      dm_236_351 L xs (dm_236_317 L xs n) 100000 x3 (x6 + q25.1) (x8 + q28.1) x10 x11 x13 0 q28.2.1 q28.2.2) else none)) else none
theorem de_236_317 {z : iv_Z} {L : Nat} {xs : Nat → Int32} (hz : dZ z L xs) {d : Nat} (hd : 103 ≤ d) : ∀ (n : Nat) (x3 : Nat) (x6 : Int) (x8 : Int) (x10 : Nat) (x11 : Int) (x13 : Int) (o0 : Option Value) (o2 : Option Value) (o4 : Option Value) (o5 : Option Value) (o14 : Option Value) (s : gx_S) (δ : dS) (q : Int × DS), dm_236_317 L xs n x3 x6 x8 x10 x11 x13 s δ = some q → dE z 236 d 317 [o0, some (.ref 0), o2, some (.ref x3), o4, o5, some (.long (Int64.ofInt x6)), none, some (.long (Int64.ofInt x8)), none, some (.ref x10), some (.long (Int64.ofInt x11)), none, some (.int (Int32.ofInt x13)), o14, none, none, none] [] (s, δ) (some (.int (Int32.ofInt q.1))) q.2 := by
  intro n
  induction n with
  | zero =>
    intro x3 x6 x8 x10 x11 x13 o0 o2 o4 o5 o14 s δ q h
    rw [dm_236_317] at h
    exact fx_no h
  | succ n ih =>
    intro x3 x6 x8 x10 x11 x13 o0 o2 o4 o5 o14 s δ q h
    rw [dm_236_317] at h
    refine ds_iload (k := 13) (p := 319) (by decide +kernel) rfl rfl ?_
    refine ds_iconst (n := 3) (p := 320) (by decide +kernel) rfl rfl ?_
    obtain ⟨z1, h⟩ := fx_gd h
    by_cases c2 : 3 ≤ x13
    · rw [if_pos c2] at h
      refine ds_icmp_ge_t (off := 120) (t := 440) (by decide +kernel) (by decide +kernel) ((gc_le rfl rfl (by decide) z1).mpr c2) ?_
      refine ds_aload_n (k := 1) (p := 441) (by decide +kernel) rfl rfl ?_
      refine ds_bipush (n := 10) (p := 443) (by decide +kernel) rfl dkb_10 ?_
      obtain ⟨q3, w4, h⟩ := fx_bd h
      refine ds_callV (idx := 149) (mj := 111) (ci := 9) (na := 1) (mx := 2) (p := 446) (args := [.ref 0, .int (Int32.ofInt 10)]) (rest := []) (al2 := [some (.ref 0), some (.int (Int32.ofInt 10))]) (S2 := (q3.2, δ)) (by decide +kernel) rfl (by decide +kernel) (Or.inl ⟨_, rfl, Or.inr fo_0⟩) rfl rfl rfl rfl rfl rfl (by omega) (fun d' hd' => dx_cls (fe_111 (by omega) (gf_111 rfl rfl w4))) rfl ?_
      obtain ⟨z5, h⟩ := fx_gd h
      refine ds_i2l (p := 447) (c := Int64.ofInt q3.1) (by decide +kernel) rfl (ga_i2l rfl z5) ?_
      refine ds_lload (k := 6) (p := 449) (by decide +kernel) rfl rfl ?_
      obtain ⟨z6, h⟩ := fx_gd h
      obtain ⟨z7, h⟩ := fx_gd h
      by_cases c8 : ¬ q3.1 = x6
      · rw [if_pos c8] at h
        refine ds_lcmp_ne_t (off := 16) (t := 466) (by decide +kernel) (by decide +kernel) (by decide +kernel) ((gcl_ne rfl rfl z6 z7).mpr c8) ?_
        refine ds_iconst (n := 0) (p := 467) (by decide +kernel) rfl rfl ?_
        have h := Option.some.inj h
        subst h
        exact ds_iret (by decide +kernel) rt_236 (by decide +kernel)
      · rw [if_neg c8] at h
        refine ds_lcmp_ne_f (off := 16) (t := 466) (p := 453) (by decide +kernel) (by decide +kernel) (by decide +kernel) rfl (fun q => c8 ((gcl_ne rfl rfl z6 z7).mp q)) ?_
        refine ds_aload_n (k := 1) (p := 454) (by decide +kernel) rfl rfl ?_
        refine ds_bipush (n := 11) (p := 456) (by decide +kernel) rfl dkb_11 ?_
        obtain ⟨q9, w10, h⟩ := fx_bd h
        refine ds_callV (idx := 149) (mj := 111) (ci := 9) (na := 1) (mx := 2) (p := 459) (args := [.ref 0, .int (Int32.ofInt 11)]) (rest := []) (al2 := [some (.ref 0), some (.int (Int32.ofInt 11))]) (S2 := (q9.2, δ)) (by decide +kernel) rfl (by decide +kernel) (Or.inl ⟨_, rfl, Or.inr fo_0⟩) rfl rfl rfl rfl rfl rfl (by omega) (fun d' hd' => dx_cls (fe_111 (by omega) (gf_111 rfl rfl w10))) rfl ?_
        obtain ⟨z11, h⟩ := fx_gd h
        refine ds_i2l (p := 460) (c := Int64.ofInt q9.1) (by decide +kernel) rfl (ga_i2l rfl z11) ?_
        refine ds_lload (k := 8) (p := 462) (by decide +kernel) rfl rfl ?_
        obtain ⟨z12, h⟩ := fx_gd h
        obtain ⟨z13, h⟩ := fx_gd h
        by_cases c14 : q9.1 = x8
        · rw [if_pos c14] at h
          refine ds_lcmp_eq_t (off := 5) (t := 468) (by decide +kernel) (by decide +kernel) (by decide +kernel) ((gcl_eq rfl rfl z12 z13).mpr c14) ?_
          refine ds_aload_n (k := 1) (p := 469) (by decide +kernel) rfl rfl ?_
          obtain ⟨q15, w16, h⟩ := fx_bd h
          refine ds_callS (idx := 230) (mj := 252) (na := 1) (mx := 4) (p := 472) (args := [.ref 0]) (rest := []) (al2 := [some (.ref 0), none, none, none]) (S2 := q15.2) (by decide +kernel) rfl (by decide +kernel) rfl rfl rfl rfl rfl rfl (by omega) (fun d' hd' => de_252 hz (by omega) w16) rfl ?_
          refine ds_astore (k := 13) (p := 474) (M := 18) (al' := [o0, some (.ref 0), o2, some (.ref x3), o4, o5, some (.long (Int64.ofInt x6)), none, some (.long (Int64.ofInt x8)), none, some (.ref x10), some (.long (Int64.ofInt x11)), none, some (.ref q15.1), o14, none, none, none]) (by decide +kernel) rfl mx_236 rfl rfl ?_
          refine ds_aload_n (k := 1) (p := 475) (by decide +kernel) rfl rfl ?_
          refine ds_bipush (n := 8) (p := 477) (by decide +kernel) rfl dkb_8 ?_
          obtain ⟨q17, w18, h⟩ := fx_bd h
          refine ds_callV (idx := 149) (mj := 111) (ci := 9) (na := 1) (mx := 2) (p := 480) (args := [.ref 0, .int (Int32.ofInt 8)]) (rest := []) (al2 := [some (.ref 0), some (.int (Int32.ofInt 8))]) (S2 := (q17.2, q15.2.2)) (by decide +kernel) rfl (by decide +kernel) (Or.inl ⟨_, rfl, Or.inr fo_0⟩) rfl rfl rfl rfl rfl rfl (by omega) (fun d' hd' => dx_cls (fe_111 (by omega) (gf_111 rfl rfl w18))) rfl ?_
          refine ds_istore (k := 14) (p := 482) (M := 18) (al' := [o0, some (.ref 0), o2, some (.ref x3), o4, o5, some (.long (Int64.ofInt x6)), none, some (.long (Int64.ofInt x8)), none, some (.ref x10), some (.long (Int64.ofInt x11)), none, some (.ref q15.1), some (.int (Int32.ofInt q17.1)), none, none, none]) (by decide +kernel) rfl mx_236 rfl rfl ?_
          refine ds_aload_n (k := 1) (p := 483) (by decide +kernel) rfl rfl ?_
          obtain ⟨q19, w20, h⟩ := fx_bd h
          refine ds_callV (idx := 234) (mj := 93) (ci := 9) (na := 0) (mx := 3) (p := 486) (args := [.ref 0]) (rest := []) (al2 := [some (.ref 0), none, none]) (S2 := (q19.2, q15.2.2)) (by decide +kernel) rfl (by decide +kernel) (Or.inl ⟨_, rfl, Or.inr fo_0⟩) rfl rfl rfl rfl rfl rfl (by omega) (fun d' hd' => dx_cls (fe_93 (by omega) (gf_93 rfl w20))) rfl ?_
          obtain ⟨z21, h⟩ := fx_gd h
          refine ds_i2l (p := 487) (c := Int64.ofInt q19.1) (by decide +kernel) rfl (ga_i2l rfl z21) ?_
          refine ds_lload (k := 11) (p := 489) (by decide +kernel) rfl rfl ?_
          obtain ⟨z22, h⟩ := fx_gd h
          obtain ⟨z23, h⟩ := fx_gd h
          by_cases c24 : q19.1 = x11
          · rw [if_pos c24] at h
            refine ds_lcmp_eq_t (off := 5) (t := 495) (by decide +kernel) (by decide +kernel) (by decide +kernel) ((gcl_eq rfl rfl z22 z23).mpr c24) ?_
            refine ds_iconst (n := 0) (p := 496) (by decide +kernel) rfl rfl ?_
            refine ds_istore (k := 15) (p := 498) (M := 18) (al' := [o0, some (.ref 0), o2, some (.ref x3), o4, o5, some (.long (Int64.ofInt x6)), none, some (.long (Int64.ofInt x8)), none, some (.ref x10), some (.long (Int64.ofInt x11)), none, some (.ref q15.1), some (.int (Int32.ofInt q17.1)), some (.int (Int32.ofInt 0)), none, none]) (by decide +kernel) rfl mx_236 rfl rfl ?_
            exact de_236_498 hz hd 100000 _ _ _ _ _ _ _ _ _ _ _ _ _ _ _ _ h
          · rw [if_neg c24] at h
            refine ds_lcmp_eq_f (off := 5) (t := 495) (p := 493) (by decide +kernel) (by decide +kernel) (by decide +kernel) rfl (fun q => c24 ((gcl_eq rfl rfl z22 z23).mp q)) ?_
            refine ds_iconst (n := 0) (p := 494) (by decide +kernel) rfl rfl ?_
            have h := Option.some.inj h
            subst h
            exact ds_iret (by decide +kernel) rt_236 (by decide +kernel)
        · rw [if_neg c14] at h
          refine ds_lcmp_eq_f (off := 5) (t := 468) (p := 466) (by decide +kernel) (by decide +kernel) (by decide +kernel) rfl (fun q => c14 ((gcl_eq rfl rfl z12 z13).mp q)) ?_
          refine ds_iconst (n := 0) (p := 467) (by decide +kernel) rfl rfl ?_
          have h := Option.some.inj h
          subst h
          exact ds_iret (by decide +kernel) rt_236 (by decide +kernel)
    · rw [if_neg c2] at h
      refine ds_icmp_ge_f (off := 120) (t := 440) (p := 323) (by decide +kernel) (by decide +kernel) rfl (fun q => c2 ((gc_le rfl rfl (by decide) z1).mp q)) ?_
      refine ds_lload (k := 6) (p := 325) (by decide +kernel) rfl rfl ?_
      refine ds_aload_n (k := 1) (p := 326) (by decide +kernel) rfl rfl ?_
      refine ds_iload (k := 13) (p := 328) (by decide +kernel) rfl rfl ?_
      refine ds_iconst (n := -1) (p := 329) (by decide +kernel) rfl rfl ?_
      refine ds_iconst (n := -1) (p := 330) (by decide +kernel) rfl rfl ?_
      obtain ⟨q25, w26, h⟩ := fx_bd h
      refine ds_callV (idx := 163) (mj := 99) (ci := 9) (na := 3) (mx := 12) (p := 333) (args := [.ref 0, .int (Int32.ofInt x13), .int (Int32.ofInt (-1)), .int (Int32.ofInt (-1))]) (rest := [.long (Int64.ofInt x6)]) (al2 := [some (.ref 0), some (.int (Int32.ofInt x13)), some (.int (Int32.ofInt (-1))), some (.int (Int32.ofInt (-1))), none, none, none, none, none, none, none, none]) (S2 := (q25.2, δ)) (by decide +kernel) rfl (by decide +kernel) (Or.inl ⟨_, rfl, Or.inr fo_0⟩) rfl rfl rfl rfl rfl rfl (by omega) (fun d' hd' => dx_cls (fe_99 (by omega) (gf_99 rfl rfl rfl rfl w26))) rfl ?_
      obtain ⟨z27, h⟩ := fx_gd h
      refine ds_i2l (p := 334) (c := Int64.ofInt q25.1) (by decide +kernel) rfl (ga_i2l rfl z27) ?_
      refine ds_ladd (p := 335) (c := Int64.ofInt (x6 + q25.1)) (by decide +kernel) rfl (gal_add rfl rfl) ?_
      refine ds_lstore (k := 6) (p := 337) (M := 18) (al' := [o0, some (.ref 0), o2, some (.ref x3), o4, (fx_kl o5), some (.long (Int64.ofInt (x6 + q25.1))), none, some (.long (Int64.ofInt x8)), none, some (.ref x10), some (.long (Int64.ofInt x11)), none, some (.int (Int32.ofInt x13)), o14, none, none, none]) (by decide +kernel) rfl mx_236 rfl rfl ?_
      refine ds_lload (k := 8) (p := 339) (by decide +kernel) rfl rfl ?_
      refine ds_aload_n (k := 3) (p := 340) (by decide +kernel) rfl rfl ?_
      refine ds_iload (k := 13) (p := 342) (by decide +kernel) rfl rfl ?_
      obtain ⟨q28, w29, h⟩ := fx_bd h
      refine ds_callS (idx := 174) (mj := 249) (na := 2) (mx := 2) (p := 345) (args := [.ref x3, .int (Int32.ofInt x13)]) (rest := [.long (Int64.ofInt x8)]) (al2 := [some (.ref x3), some (.int (Int32.ofInt x13))]) (S2 := q28.2) (by decide +kernel) rfl (by decide +kernel) rfl rfl rfl rfl rfl rfl (by omega) (fun d' hd' => de_249 hz (by omega) w29) rfl ?_
      refine ds_ladd (p := 346) (c := Int64.ofInt (x8 + q28.1)) (by decide +kernel) rfl (gal_add rfl rfl) ?_
      refine ds_lstore (k := 8) (p := 348) (M := 18) (al' := [o0, some (.ref 0), o2, some (.ref x3), o4, (fx_kl o5), some (.long (Int64.ofInt (x6 + q25.1))), none, some (.long (Int64.ofInt (x8 + q28.1))), none, some (.ref x10), some (.long (Int64.ofInt x11)), none, some (.int (Int32.ofInt x13)), o14, none, none, none]) (by decide +kernel) rfl mx_236 rfl rfl ?_
      refine ds_iconst (n := 0) (p := 349) (by decide +kernel) rfl rfl ?_
      refine ds_istore (k := 14) (p := 351) (M := 18) (al' := [o0, some (.ref 0), o2, some (.ref x3), o4, (fx_kl o5), some (.long (Int64.ofInt (x6 + q25.1))), none, some (.long (Int64.ofInt (x8 + q28.1))), none, some (.ref x10), some (.long (Int64.ofInt x11)), none, some (.int (Int32.ofInt x13)), some (.int (Int32.ofInt 0)), none, none, none]) (by decide +kernel) rfl mx_236 rfl rfl ?_
      exact de_236_351 hz hd ih 100000 _ _ _ _ _ _ _ _ _ _ _ _ _ _ h
def dm_236_215 (L : Nat) (xs : Nat → Int32) (k_182 : Nat → Int → Int → Int → Int → Int → gx_S → dS → Option (Int × DS)) (x3 : Nat) (x4 : Int) (x5 : Int) (x6 : Int) (x7 : Int) (x8 : Int) (s : gx_S) (δ : dS) : Option (Int × DS) :=
  k_182 x3 x4 x5 x6 x7 (x8 + 1) s δ
theorem de_236_215 {z : iv_Z} {L : Nat} {xs : Nat → Int32} (hz : dZ z L xs) {d : Nat} (hd : 103 ≤ d) {k_182 : Nat → Int → Int → Int → Int → Int → gx_S → dS → Option (Int × DS)} (hk_182 : ∀ (x3 : Nat) (x4 : Int) (x5 : Int) (x6 : Int) (x7 : Int) (x8 : Int) (o0 : Option Value) (o2 : Option Value) (s : gx_S) (δ : dS) (q : Int × DS), k_182 x3 x4 x5 x6 x7 x8 s δ = some q → dE z 236 d 182 [o0, some (.ref 0), o2, some (.ref x3), some (.int (Int32.ofInt x4)), some (.int (Int32.ofInt x5)), some (.int (Int32.ofInt x6)), some (.int (Int32.ofInt x7)), some (.int (Int32.ofInt x8)), none, none, none, none, none, none, none, none, none] [] (s, δ) (some (.int (Int32.ofInt q.1))) q.2) (x3 : Nat) (x4 : Int) (x5 : Int) (x6 : Int) (x7 : Int) (x8 : Int) (o0 : Option Value) (o2 : Option Value) (s : gx_S) (δ : dS) (q : Int × DS) (h : dm_236_215 L xs k_182  x3 x4 x5 x6 x7 x8 s δ = some q) : dE z 236 d 215 [o0, some (.ref 0), o2, some (.ref x3), some (.int (Int32.ofInt x4)), some (.int (Int32.ofInt x5)), some (.int (Int32.ofInt x6)), some (.int (Int32.ofInt x7)), some (.int (Int32.ofInt x8)), none, none, none, none, none, none, none, none, none] [] (s, δ) (some (.int (Int32.ofInt q.1))) q.2 := by
  unfold dm_236_215 at h
  refine ds_iinc (k := 8) (n := 1) (p := 218) (M := 18) (y := Int32.ofInt (x8 + 1)) (al' := [o0, some (.ref 0), o2, some (.ref x3), some (.int (Int32.ofInt x4)), some (.int (Int32.ofInt x5)), some (.int (Int32.ofInt x6)), some (.int (Int32.ofInt x7)), some (.int (Int32.ofInt (x8 + 1))), none, none, none, none, none, none, none, none, none]) (by decide +kernel) rfl rfl mx_236 rfl rfl (ga_add rfl rfl) rfl ?_
  refine ds_goto (off := -36) (p := 182) (by decide +kernel) (by decide +kernel) ?_
  exact hk_182 _ _ _ _ _ _ _ _ _ _ _ h
def dm_236_182 (L : Nat) (xs : Nat → Int32) (k_170 : Nat → Int → Int → Int → gx_S → dS → Option (Int × DS)) : Nat → Nat → Int → Int → Int → Int → Int → gx_S → dS → Option (Int × DS)
  | 0, _, _, _, _, _, _, _, _ => none
  | n + 1, x3, x4, x5, x6, x7, x8, s, δ =>
    if (-2147483648 ≤ x8 ∧ x8 ≤ 2147483647) then (
    if 8 ≤ x8 then (
      (gm_101 x4 x6 0 s).bind fun q3 =>
      if (-2147483648 ≤ q3.1 ∧ q3.1 ≤ 2147483647) then (
      if (-2147483648 ≤ x7 ∧ x7 ≤ 2147483647) then (
      if q3.1 = x7 then (
        k_170 x3 x4 (x5 + x7) (x6 + 1) q3.2 δ) else (
        some (0, q3.2, δ))) else none) else none) else (
      if dO δ x3 10 then (
      (δ.P x3 9).bind fun v9 =>
      if dA δ 0 v9 then (
      if dI δ v9 x8 then (
      if (-2147483648 ≤ (δ.I v9 ((x8).toNat)) ∧ (δ.I v9 ((x8).toNat)) ≤ 2147483647) then (
      if (-2147483648 ≤ x6 ∧ x6 ≤ 2147483647) then (
      if ¬ (δ.I v9 ((x8).toNat)) = x6 then (
        dm_236_215 L xs (dm_236_182 L xs k_170 n) x3 x4 x5 x6 x7 x8 s δ) else (
        (gm_99 x4 (-1) x8 s).bind fun q16 =>
        dm_236_215 L xs (dm_236_182 L xs k_170 n) x3 x4 x5 x6 (x7 + q16.1) x8 q16.2 δ)) else none) else none) else none) else none) else none)) else none
theorem de_236_182 {z : iv_Z} {L : Nat} {xs : Nat → Int32} (hz : dZ z L xs) {d : Nat} (hd : 103 ≤ d) {k_170 : Nat → Int → Int → Int → gx_S → dS → Option (Int × DS)} (hk_170 : ∀ (x3 : Nat) (x4 : Int) (x5 : Int) (x6 : Int) (o0 : Option Value) (o2 : Option Value) (o7 : Option Value) (o8 : Option Value) (s : gx_S) (δ : dS) (q : Int × DS), k_170 x3 x4 x5 x6 s δ = some q → dE z 236 d 170 [o0, some (.ref 0), o2, some (.ref x3), some (.int (Int32.ofInt x4)), some (.int (Int32.ofInt x5)), some (.int (Int32.ofInt x6)), o7, o8, none, none, none, none, none, none, none, none, none] [] (s, δ) (some (.int (Int32.ofInt q.1))) q.2) : ∀ (n : Nat) (x3 : Nat) (x4 : Int) (x5 : Int) (x6 : Int) (x7 : Int) (x8 : Int) (o0 : Option Value) (o2 : Option Value) (s : gx_S) (δ : dS) (q : Int × DS), dm_236_182 L xs k_170 n x3 x4 x5 x6 x7 x8 s δ = some q → dE z 236 d 182 [o0, some (.ref 0), o2, some (.ref x3), some (.int (Int32.ofInt x4)), some (.int (Int32.ofInt x5)), some (.int (Int32.ofInt x6)), some (.int (Int32.ofInt x7)), some (.int (Int32.ofInt x8)), none, none, none, none, none, none, none, none, none] [] (s, δ) (some (.int (Int32.ofInt q.1))) q.2 := by
  intro n
  induction n with
  | zero =>
    intro x3 x4 x5 x6 x7 x8 o0 o2 s δ q h
    rw [dm_236_182] at h
    exact fx_no h
  | succ n ih =>
    intro x3 x4 x5 x6 x7 x8 o0 o2 s δ q h
    rw [dm_236_182] at h
    refine ds_iload (k := 8) (p := 184) (by decide +kernel) rfl rfl ?_
    refine ds_bipush (n := 8) (p := 186) (by decide +kernel) rfl dkb_8 ?_
    obtain ⟨z1, h⟩ := fx_gd h
    by_cases c2 : 8 ≤ x8
    · rw [if_pos c2] at h
      refine ds_icmp_ge_t (off := 35) (t := 221) (by decide +kernel) (by decide +kernel) ((gc_le rfl rfl (by decide) z1).mpr c2) ?_
      refine ds_aload_n (k := 1) (p := 222) (by decide +kernel) rfl rfl ?_
      refine ds_iload (k := 4) (p := 224) (by decide +kernel) rfl rfl ?_
      refine ds_iload (k := 6) (p := 226) (by decide +kernel) rfl rfl ?_
      refine ds_iconst (n := 0) (p := 227) (by decide +kernel) rfl rfl ?_
      obtain ⟨q3, w4, h⟩ := fx_bd h
      refine ds_callV (idx := 227) (mj := 101) (ci := 9) (na := 3) (mx := 7) (p := 230) (args := [.ref 0, .int (Int32.ofInt x4), .int (Int32.ofInt x6), .int (Int32.ofInt 0)]) (rest := []) (al2 := [some (.ref 0), some (.int (Int32.ofInt x4)), some (.int (Int32.ofInt x6)), some (.int (Int32.ofInt 0)), none, none, none]) (S2 := (q3.2, δ)) (by decide +kernel) rfl (by decide +kernel) (Or.inl ⟨_, rfl, Or.inr fo_0⟩) rfl rfl rfl rfl rfl rfl (by omega) (fun d' hd' => dx_cls (fe_101 (by omega) (gf_101 rfl rfl rfl rfl w4))) rfl ?_
      refine ds_iload (k := 7) (p := 232) (by decide +kernel) rfl rfl ?_
      obtain ⟨z5, h⟩ := fx_gd h
      obtain ⟨z6, h⟩ := fx_gd h
      by_cases c7 : q3.1 = x7
      · rw [if_pos c7] at h
        refine ds_icmp_eq_t (off := 5) (t := 237) (by decide +kernel) (by decide +kernel) ((gc_eq rfl rfl z5 z6).mpr c7) ?_
        refine ds_iload (k := 5) (p := 239) (by decide +kernel) rfl rfl ?_
        refine ds_iload (k := 7) (p := 241) (by decide +kernel) rfl rfl ?_
        refine ds_iadd (p := 242) (c := Int32.ofInt (x5 + x7)) (by decide +kernel) rfl (ga_add rfl rfl) ?_
        refine ds_istore (k := 5) (p := 244) (M := 18) (al' := [o0, some (.ref 0), o2, some (.ref x3), some (.int (Int32.ofInt x4)), some (.int (Int32.ofInt (x5 + x7))), some (.int (Int32.ofInt x6)), some (.int (Int32.ofInt x7)), some (.int (Int32.ofInt x8)), none, none, none, none, none, none, none, none, none]) (by decide +kernel) rfl mx_236 rfl rfl ?_
        refine ds_iinc (k := 6) (n := 1) (p := 247) (M := 18) (y := Int32.ofInt (x6 + 1)) (al' := [o0, some (.ref 0), o2, some (.ref x3), some (.int (Int32.ofInt x4)), some (.int (Int32.ofInt (x5 + x7))), some (.int (Int32.ofInt (x6 + 1))), some (.int (Int32.ofInt x7)), some (.int (Int32.ofInt x8)), none, none, none, none, none, none, none, none, none]) (by decide +kernel) rfl rfl mx_236 rfl rfl (ga_add rfl rfl) rfl ?_
        refine ds_goto (off := -77) (p := 170) (by decide +kernel) (by decide +kernel) ?_
        exact hk_170 _ _ _ _ _ _ _ _ _ _ _ h
      · rw [if_neg c7] at h
        refine ds_icmp_eq_f (off := 5) (t := 237) (p := 235) (by decide +kernel) (by decide +kernel) rfl (fun q => c7 ((gc_eq rfl rfl z5 z6).mp q)) ?_
        refine ds_iconst (n := 0) (p := 236) (by decide +kernel) rfl rfl ?_
        have h := Option.some.inj h
        subst h
        exact ds_iret (by decide +kernel) rt_236 (by decide +kernel)
    · rw [if_neg c2] at h
      refine ds_icmp_ge_f (off := 35) (t := 221) (p := 189) (by decide +kernel) (by decide +kernel) rfl (fun q => c2 ((gc_le rfl rfl (by decide) z1).mp q)) ?_
      refine ds_aload_n (k := 3) (p := 190) (by decide +kernel) rfl rfl ?_
      obtain ⟨z8, h⟩ := fx_gd h
      obtain ⟨v9, w10, h⟩ := fx_bd h
      refine ds_gfr (idx := 110) (ci := 10) (j := 9) (p := 193) (by decide +kernel) rfl (by decide +kernel) z8 w10 ?_
      refine ds_iload (k := 8) (p := 195) (by decide +kernel) rfl rfl ?_
      obtain ⟨z11, h⟩ := fx_gd h
      obtain ⟨z12, h⟩ := fx_gd h
      refine ds_iaload (p := 196) (by decide +kernel) rfl z11 z12 ?_
      refine ds_iload (k := 6) (p := 198) (by decide +kernel) rfl rfl ?_
      obtain ⟨z13, h⟩ := fx_gd h
      obtain ⟨z14, h⟩ := fx_gd h
      by_cases c15 : ¬ (δ.I v9 ((x8).toNat)) = x6
      · rw [if_pos c15] at h
        refine ds_icmp_ne_t (off := 17) (t := 215) (by decide +kernel) (by decide +kernel) ((gc_ne rfl rfl z13 z14).mpr c15) ?_
        exact de_236_215 hz hd ih _ _ _ _ _ _ _ _ _ _ _ h
      · rw [if_neg c15] at h
        refine ds_icmp_ne_f (off := 17) (t := 215) (p := 201) (by decide +kernel) (by decide +kernel) rfl (fun q => c15 ((gc_ne rfl rfl z13 z14).mp q)) ?_
        refine ds_iload (k := 7) (p := 203) (by decide +kernel) rfl rfl ?_
        refine ds_aload_n (k := 1) (p := 204) (by decide +kernel) rfl rfl ?_
        refine ds_iload (k := 4) (p := 206) (by decide +kernel) rfl rfl ?_
        refine ds_iconst (n := -1) (p := 207) (by decide +kernel) rfl rfl ?_
        refine ds_iload (k := 8) (p := 209) (by decide +kernel) rfl rfl ?_
        obtain ⟨q16, w17, h⟩ := fx_bd h
        refine ds_callV (idx := 163) (mj := 99) (ci := 9) (na := 3) (mx := 12) (p := 212) (args := [.ref 0, .int (Int32.ofInt x4), .int (Int32.ofInt (-1)), .int (Int32.ofInt x8)]) (rest := [.int (Int32.ofInt x7)]) (al2 := [some (.ref 0), some (.int (Int32.ofInt x4)), some (.int (Int32.ofInt (-1))), some (.int (Int32.ofInt x8)), none, none, none, none, none, none, none, none]) (S2 := (q16.2, δ)) (by decide +kernel) rfl (by decide +kernel) (Or.inl ⟨_, rfl, Or.inr fo_0⟩) rfl rfl rfl rfl rfl rfl (by omega) (fun d' hd' => dx_cls (fe_99 (by omega) (gf_99 rfl rfl rfl rfl w17))) rfl ?_
        refine ds_iadd (p := 213) (c := Int32.ofInt (x7 + q16.1)) (by decide +kernel) rfl (ga_add rfl rfl) ?_
        refine ds_istore (k := 7) (p := 215) (M := 18) (al' := [o0, some (.ref 0), o2, some (.ref x3), some (.int (Int32.ofInt x4)), some (.int (Int32.ofInt x5)), some (.int (Int32.ofInt x6)), some (.int (Int32.ofInt (x7 + q16.1))), some (.int (Int32.ofInt x8)), none, none, none, none, none, none, none, none, none]) (by decide +kernel) rfl mx_236 rfl rfl ?_
        exact de_236_215 hz hd ih _ _ _ _ _ _ _ _ _ _ _ h
def dm_236_170 (L : Nat) (xs : Nat → Int32) : Nat → Nat → Int → Int → Int → gx_S → dS → Option (Int × DS)
  | 0, _, _, _, _, _, _ => none
  | n + 1, x3, x4, x5, x6, s, δ =>
    if (-2147483648 ≤ x6 ∧ x6 ≤ 2147483647) then (
    if 4 ≤ x6 then (
      (gm_99 x4 (-1) 8 s).bind fun q3 =>
      (gm_99 x4 (-1) (-1) q3.2).bind fun q5 =>
      if (-2147483648 ≤ (x5 + q3.1) ∧ (x5 + q3.1) ≤ 2147483647) then (
      if (-2147483648 ≤ q5.1 ∧ q5.1 ≤ 2147483647) then (
      if ¬ (x5 + q3.1) = q5.1 then (
        some (0, q5.2, δ)) else (
        (gm_101 x4 4 0 q5.2).bind fun q10 =>
        if (-2147483648 ≤ q10.1 ∧ q10.1 ≤ 2147483647) then (
        if ¬ q10.1 = (-1) then (
          some (0, q10.2, δ)) else (
          (gm_101 x4 0 2 q10.2).bind fun q14 =>
          if (-2147483648 ≤ q14.1 ∧ q14.1 ≤ 2147483647) then (
          if q14.1 = (-1) then (
            if 0 ≤ (27 : Int) ∧ (27 : Int) ≤ 60000000 then (
            (some (δ.al 1 (27 : Int).toNat)).bind fun t19 =>
            dm_236_317 L xs 100000 x3 0 0 δ.n 0 0 q14.2 t19) else none) else (
            some (0, q14.2, δ))) else none)) else none)) else none) else none) else (
      dm_236_182 L xs (dm_236_170 L xs n) 100000 x3 x4 x5 x6 0 0 s δ)) else none
theorem de_236_170 {z : iv_Z} {L : Nat} {xs : Nat → Int32} (hz : dZ z L xs) {d : Nat} (hd : 103 ≤ d) : ∀ (n : Nat) (x3 : Nat) (x4 : Int) (x5 : Int) (x6 : Int) (o0 : Option Value) (o2 : Option Value) (o7 : Option Value) (o8 : Option Value) (s : gx_S) (δ : dS) (q : Int × DS), dm_236_170 L xs n x3 x4 x5 x6 s δ = some q → dE z 236 d 170 [o0, some (.ref 0), o2, some (.ref x3), some (.int (Int32.ofInt x4)), some (.int (Int32.ofInt x5)), some (.int (Int32.ofInt x6)), o7, o8, none, none, none, none, none, none, none, none, none] [] (s, δ) (some (.int (Int32.ofInt q.1))) q.2 := by
  intro n
  induction n with
  | zero =>
    intro x3 x4 x5 x6 o0 o2 o7 o8 s δ q h
    rw [dm_236_170] at h
    exact fx_no h
  | succ n ih =>
    intro x3 x4 x5 x6 o0 o2 o7 o8 s δ q h
    rw [dm_236_170] at h
    refine ds_iload (k := 6) (p := 172) (by decide +kernel) rfl rfl ?_
    refine ds_iconst (n := 4) (p := 173) (by decide +kernel) rfl rfl ?_
    obtain ⟨z1, h⟩ := fx_gd h
    by_cases c2 : 4 ≤ x6
    · rw [if_pos c2] at h
      refine ds_icmp_ge_t (off := 77) (t := 250) (by decide +kernel) (by decide +kernel) ((gc_le rfl rfl (by decide) z1).mpr c2) ?_
      refine ds_iload (k := 5) (p := 252) (by decide +kernel) rfl rfl ?_
      refine ds_aload_n (k := 1) (p := 253) (by decide +kernel) rfl rfl ?_
      refine ds_iload (k := 4) (p := 255) (by decide +kernel) rfl rfl ?_
      refine ds_iconst (n := -1) (p := 256) (by decide +kernel) rfl rfl ?_
      refine ds_bipush (n := 8) (p := 258) (by decide +kernel) rfl dkb_8 ?_
      obtain ⟨q3, w4, h⟩ := fx_bd h
      refine ds_callV (idx := 163) (mj := 99) (ci := 9) (na := 3) (mx := 12) (p := 261) (args := [.ref 0, .int (Int32.ofInt x4), .int (Int32.ofInt (-1)), .int (Int32.ofInt 8)]) (rest := [.int (Int32.ofInt x5)]) (al2 := [some (.ref 0), some (.int (Int32.ofInt x4)), some (.int (Int32.ofInt (-1))), some (.int (Int32.ofInt 8)), none, none, none, none, none, none, none, none]) (S2 := (q3.2, δ)) (by decide +kernel) rfl (by decide +kernel) (Or.inl ⟨_, rfl, Or.inr fo_0⟩) rfl rfl rfl rfl rfl rfl (by omega) (fun d' hd' => dx_cls (fe_99 (by omega) (gf_99 rfl rfl rfl rfl w4))) rfl ?_
      refine ds_iadd (p := 262) (c := Int32.ofInt (x5 + q3.1)) (by decide +kernel) rfl (ga_add rfl rfl) ?_
      refine ds_aload_n (k := 1) (p := 263) (by decide +kernel) rfl rfl ?_
      refine ds_iload (k := 4) (p := 265) (by decide +kernel) rfl rfl ?_
      refine ds_iconst (n := -1) (p := 266) (by decide +kernel) rfl rfl ?_
      refine ds_iconst (n := -1) (p := 267) (by decide +kernel) rfl rfl ?_
      obtain ⟨q5, w6, h⟩ := fx_bd h
      refine ds_callV (idx := 163) (mj := 99) (ci := 9) (na := 3) (mx := 12) (p := 270) (args := [.ref 0, .int (Int32.ofInt x4), .int (Int32.ofInt (-1)), .int (Int32.ofInt (-1))]) (rest := [.int (Int32.ofInt (x5 + q3.1))]) (al2 := [some (.ref 0), some (.int (Int32.ofInt x4)), some (.int (Int32.ofInt (-1))), some (.int (Int32.ofInt (-1))), none, none, none, none, none, none, none, none]) (S2 := (q5.2, δ)) (by decide +kernel) rfl (by decide +kernel) (Or.inl ⟨_, rfl, Or.inr fo_0⟩) rfl rfl rfl rfl rfl rfl (by omega) (fun d' hd' => dx_cls (fe_99 (by omega) (gf_99 rfl rfl rfl rfl w6))) rfl ?_
      obtain ⟨z7, h⟩ := fx_gd h
      obtain ⟨z8, h⟩ := fx_gd h
      by_cases c9 : ¬ (x5 + q3.1) = q5.1
      · rw [if_pos c9] at h
        refine ds_icmp_ne_t (off := 27) (t := 297) (by decide +kernel) (by decide +kernel) ((gc_ne rfl rfl z7 z8).mpr c9) ?_
        refine ds_iconst (n := 0) (p := 298) (by decide +kernel) rfl rfl ?_
        have h := Option.some.inj h
        subst h
        exact ds_iret (by decide +kernel) rt_236 (by decide +kernel)
      · rw [if_neg c9] at h
        refine ds_icmp_ne_f (off := 27) (t := 297) (p := 273) (by decide +kernel) (by decide +kernel) rfl (fun q => c9 ((gc_ne rfl rfl z7 z8).mp q)) ?_
        refine ds_aload_n (k := 1) (p := 274) (by decide +kernel) rfl rfl ?_
        refine ds_iload (k := 4) (p := 276) (by decide +kernel) rfl rfl ?_
        refine ds_iconst (n := 4) (p := 277) (by decide +kernel) rfl rfl ?_
        refine ds_iconst (n := 0) (p := 278) (by decide +kernel) rfl rfl ?_
        obtain ⟨q10, w11, h⟩ := fx_bd h
        refine ds_callV (idx := 227) (mj := 101) (ci := 9) (na := 3) (mx := 7) (p := 281) (args := [.ref 0, .int (Int32.ofInt x4), .int (Int32.ofInt 4), .int (Int32.ofInt 0)]) (rest := []) (al2 := [some (.ref 0), some (.int (Int32.ofInt x4)), some (.int (Int32.ofInt 4)), some (.int (Int32.ofInt 0)), none, none, none]) (S2 := (q10.2, δ)) (by decide +kernel) rfl (by decide +kernel) (Or.inl ⟨_, rfl, Or.inr fo_0⟩) rfl rfl rfl rfl rfl rfl (by omega) (fun d' hd' => dx_cls (fe_101 (by omega) (gf_101 rfl rfl rfl rfl w11))) rfl ?_
        refine ds_iconst (n := -1) (p := 282) (by decide +kernel) rfl rfl ?_
        obtain ⟨z12, h⟩ := fx_gd h
        by_cases c13 : ¬ q10.1 = (-1)
        · rw [if_pos c13] at h
          refine ds_icmp_ne_t (off := 15) (t := 297) (by decide +kernel) (by decide +kernel) ((gc_ne rfl rfl z12 (by decide)).mpr c13) ?_
          refine ds_iconst (n := 0) (p := 298) (by decide +kernel) rfl rfl ?_
          have h := Option.some.inj h
          subst h
          exact ds_iret (by decide +kernel) rt_236 (by decide +kernel)
        · rw [if_neg c13] at h
          refine ds_icmp_ne_f (off := 15) (t := 297) (p := 285) (by decide +kernel) (by decide +kernel) rfl (fun q => c13 ((gc_ne rfl rfl z12 (by decide)).mp q)) ?_
          refine ds_aload_n (k := 1) (p := 286) (by decide +kernel) rfl rfl ?_
          refine ds_iload (k := 4) (p := 288) (by decide +kernel) rfl rfl ?_
          refine ds_iconst (n := 0) (p := 289) (by decide +kernel) rfl rfl ?_
          refine ds_iconst (n := 2) (p := 290) (by decide +kernel) rfl rfl ?_
          obtain ⟨q14, w15, h⟩ := fx_bd h
          refine ds_callV (idx := 227) (mj := 101) (ci := 9) (na := 3) (mx := 7) (p := 293) (args := [.ref 0, .int (Int32.ofInt x4), .int (Int32.ofInt 0), .int (Int32.ofInt 2)]) (rest := []) (al2 := [some (.ref 0), some (.int (Int32.ofInt x4)), some (.int (Int32.ofInt 0)), some (.int (Int32.ofInt 2)), none, none, none]) (S2 := (q14.2, δ)) (by decide +kernel) rfl (by decide +kernel) (Or.inl ⟨_, rfl, Or.inr fo_0⟩) rfl rfl rfl rfl rfl rfl (by omega) (fun d' hd' => dx_cls (fe_101 (by omega) (gf_101 rfl rfl rfl rfl w15))) rfl ?_
          refine ds_iconst (n := -1) (p := 294) (by decide +kernel) rfl rfl ?_
          obtain ⟨z16, h⟩ := fx_gd h
          by_cases c17 : q14.1 = (-1)
          · rw [if_pos c17] at h
            refine ds_icmp_eq_t (off := 5) (t := 299) (by decide +kernel) (by decide +kernel) ((gc_eq rfl rfl z16 (by decide)).mpr c17) ?_
            refine ds_lconst (n := 0) (p := 300) (by decide +kernel) rfl dl_0 ?_
            refine ds_lstore (k := 6) (p := 302) (M := 18) (al' := [o0, some (.ref 0), o2, some (.ref x3), some (.int (Int32.ofInt x4)), some (.int (Int32.ofInt x5)), some (.long (Int64.ofInt 0)), none, o8, none, none, none, none, none, none, none, none, none]) (by decide +kernel) rfl mx_236 rfl rfl ?_
            refine ds_lconst (n := 0) (p := 303) (by decide +kernel) rfl dl_0 ?_
            refine ds_lstore (k := 8) (p := 305) (M := 18) (al' := [o0, some (.ref 0), o2, some (.ref x3), some (.int (Int32.ofInt x4)), some (.int (Int32.ofInt x5)), some (.long (Int64.ofInt 0)), none, some (.long (Int64.ofInt 0)), none, none, none, none, none, none, none, none, none]) (by decide +kernel) rfl mx_236 rfl rfl ?_
            refine ds_bipush (n := 27) (p := 307) (by decide +kernel) rfl dkb_27 ?_
            obtain ⟨z18, h⟩ := fx_gd h
            obtain ⟨t19, w20, h⟩ := fx_bd h
            refine ds_newarray (a := .long) (t := 1) (p := 309) (by decide +kernel) rfl (by decide +kernel) (by decide) z18 ?_
            rw [Option.some.inj w20]
            refine ds_astore (k := 10) (p := 311) (M := 18) (al' := [o0, some (.ref 0), o2, some (.ref x3), some (.int (Int32.ofInt x4)), some (.int (Int32.ofInt x5)), some (.long (Int64.ofInt 0)), none, some (.long (Int64.ofInt 0)), none, some (.ref δ.n), none, none, none, none, none, none, none]) (by decide +kernel) rfl mx_236 rfl rfl ?_
            refine ds_lconst (n := 0) (p := 312) (by decide +kernel) rfl dl_0 ?_
            refine ds_lstore (k := 11) (p := 314) (M := 18) (al' := [o0, some (.ref 0), o2, some (.ref x3), some (.int (Int32.ofInt x4)), some (.int (Int32.ofInt x5)), some (.long (Int64.ofInt 0)), none, some (.long (Int64.ofInt 0)), none, some (.ref δ.n), some (.long (Int64.ofInt 0)), none, none, none, none, none, none]) (by decide +kernel) rfl mx_236 rfl rfl ?_
            refine ds_iconst (n := 0) (p := 315) (by decide +kernel) rfl rfl ?_
            refine ds_istore (k := 13) (p := 317) (M := 18) (al' := [o0, some (.ref 0), o2, some (.ref x3), some (.int (Int32.ofInt x4)), some (.int (Int32.ofInt x5)), some (.long (Int64.ofInt 0)), none, some (.long (Int64.ofInt 0)), none, some (.ref δ.n), some (.long (Int64.ofInt 0)), none, some (.int (Int32.ofInt 0)), none, none, none, none]) (by decide +kernel) rfl mx_236 rfl rfl ?_
            exact de_236_317 hz hd 100000 _ _ _ _ _ _ _ _ _ _ _ _ _ _ h
          · rw [if_neg c17] at h
            refine ds_icmp_eq_f (off := 5) (t := 299) (p := 297) (by decide +kernel) (by decide +kernel) rfl (fun q => c17 ((gc_eq rfl rfl z16 (by decide)).mp q)) ?_
            refine ds_iconst (n := 0) (p := 298) (by decide +kernel) rfl rfl ?_
            have h := Option.some.inj h
            subst h
            exact ds_iret (by decide +kernel) rt_236 (by decide +kernel)
    · rw [if_neg c2] at h
      refine ds_icmp_ge_f (off := 77) (t := 250) (p := 176) (by decide +kernel) (by decide +kernel) rfl (fun q => c2 ((gc_le rfl rfl (by decide) z1).mp q)) ?_
      refine ds_iconst (n := 0) (p := 177) (by decide +kernel) rfl rfl ?_
      refine ds_istore (k := 7) (p := 179) (M := 18) (al' := [o0, some (.ref 0), o2, some (.ref x3), some (.int (Int32.ofInt x4)), some (.int (Int32.ofInt x5)), some (.int (Int32.ofInt x6)), some (.int (Int32.ofInt 0)), o8, none, none, none, none, none, none, none, none, none]) (by decide +kernel) rfl mx_236 rfl rfl ?_
      refine ds_iconst (n := 0) (p := 180) (by decide +kernel) rfl rfl ?_
      refine ds_istore (k := 8) (p := 182) (M := 18) (al' := [o0, some (.ref 0), o2, some (.ref x3), some (.int (Int32.ofInt x4)), some (.int (Int32.ofInt x5)), some (.int (Int32.ofInt x6)), some (.int (Int32.ofInt 0)), some (.int (Int32.ofInt 0)), none, none, none, none, none, none, none, none, none]) (by decide +kernel) rfl mx_236 rfl rfl ?_
      exact de_236_182 hz hd ih 100000 _ _ _ _ _ _ _ _ _ _ _ h
def dm_236_128 (L : Nat) (xs : Nat → Int32) : Nat → Nat → Int → Int → gx_S → dS → Option (Int × DS)
  | 0, _, _, _, _, _ => none
  | n + 1, x3, x4, x5, s, δ =>
    if (-2147483648 ≤ x5 ∧ x5 ≤ 2147483647) then (
    if 3 ≤ x5 then (
      (dm_255 L xs x3 x4 s δ).bind fun q3 =>
      if (-2147483648 ≤ q3.1 ∧ q3.1 ≤ 2147483647) then (
      if ¬ q3.1 = 0 then (
        dm_236_170 L xs 100000 x3 x4 0 0 q3.2.1 q3.2.2) else (
        some (0, q3.2.1, q3.2.2))) else none) else (
      (dm_254 L xs x3 x5 s δ).bind fun q7 =>
      if (-2147483648 ≤ q7.1 ∧ q7.1 ≤ 2147483647) then (
      if ¬ q7.1 = 0 then (
        dm_236_128 L xs n x3 x4 (x5 + 1) q7.2.1 q7.2.2) else (
        some (0, q7.2.1, q7.2.2))) else none)) else none
theorem de_236_128 {z : iv_Z} {L : Nat} {xs : Nat → Int32} (hz : dZ z L xs) {d : Nat} (hd : 103 ≤ d) : ∀ (n : Nat) (x3 : Nat) (x4 : Int) (x5 : Int) (o0 : Option Value) (o2 : Option Value) (s : gx_S) (δ : dS) (q : Int × DS), dm_236_128 L xs n x3 x4 x5 s δ = some q → dE z 236 d 128 [o0, some (.ref 0), o2, some (.ref x3), some (.int (Int32.ofInt x4)), some (.int (Int32.ofInt x5)), none, none, none, none, none, none, none, none, none, none, none, none] [] (s, δ) (some (.int (Int32.ofInt q.1))) q.2 := by
  intro n
  induction n with
  | zero =>
    intro x3 x4 x5 o0 o2 s δ q h
    rw [dm_236_128] at h
    exact fx_no h
  | succ n ih =>
    intro x3 x4 x5 o0 o2 s δ q h
    rw [dm_236_128] at h
    refine ds_iload (k := 5) (p := 130) (by decide +kernel) rfl rfl ?_
    refine ds_iconst (n := 3) (p := 131) (by decide +kernel) rfl rfl ?_
    obtain ⟨z1, h⟩ := fx_gd h
    by_cases c2 : 3 ≤ x5
    · rw [if_pos c2] at h
      refine ds_icmp_ge_t (off := 21) (t := 152) (by decide +kernel) (by decide +kernel) ((gc_le rfl rfl (by decide) z1).mpr c2) ?_
      refine ds_aload_n (k := 1) (p := 153) (by decide +kernel) rfl rfl ?_
      refine ds_aload_n (k := 3) (p := 154) (by decide +kernel) rfl rfl ?_
      refine ds_iload (k := 4) (p := 156) (by decide +kernel) rfl rfl ?_
      obtain ⟨q3, w4, h⟩ := fx_bd h
      refine ds_callS (idx := 224) (mj := 255) (na := 3) (mx := 14) (p := 159) (args := [.ref 0, .ref x3, .int (Int32.ofInt x4)]) (rest := []) (al2 := [some (.ref 0), some (.ref x3), some (.int (Int32.ofInt x4)), none, none, none, none, none, none, none, none, none, none, none]) (S2 := q3.2) (by decide +kernel) rfl (by decide +kernel) rfl rfl rfl rfl rfl rfl (by omega) (fun d' hd' => de_255 hz (by omega) w4) rfl ?_
      obtain ⟨z5, h⟩ := fx_gd h
      by_cases c6 : ¬ q3.1 = 0
      · rw [if_pos c6] at h
        refine ds_if_ne_t (off := 5) (t := 164) (by decide +kernel) (by decide +kernel) ((gc_ne rfl rfl z5 (by decide)).mpr c6) ?_
        refine ds_iconst (n := 0) (p := 165) (by decide +kernel) rfl rfl ?_
        refine ds_istore (k := 5) (p := 167) (M := 18) (al' := [o0, some (.ref 0), o2, some (.ref x3), some (.int (Int32.ofInt x4)), some (.int (Int32.ofInt 0)), none, none, none, none, none, none, none, none, none, none, none, none]) (by decide +kernel) rfl mx_236 rfl rfl ?_
        refine ds_iconst (n := 0) (p := 168) (by decide +kernel) rfl rfl ?_
        refine ds_istore (k := 6) (p := 170) (M := 18) (al' := [o0, some (.ref 0), o2, some (.ref x3), some (.int (Int32.ofInt x4)), some (.int (Int32.ofInt 0)), some (.int (Int32.ofInt 0)), none, none, none, none, none, none, none, none, none, none, none]) (by decide +kernel) rfl mx_236 rfl rfl ?_
        exact de_236_170 hz hd 100000 _ _ _ _ _ _ _ _ _ _ _ h
      · rw [if_neg c6] at h
        refine ds_if_ne_f (off := 5) (t := 164) (p := 162) (by decide +kernel) (by decide +kernel) rfl (fun q => c6 ((gc_ne rfl rfl z5 (by decide)).mp q)) ?_
        refine ds_iconst (n := 0) (p := 163) (by decide +kernel) rfl rfl ?_
        have h := Option.some.inj h
        subst h
        exact ds_iret (by decide +kernel) rt_236 (by decide +kernel)
    · rw [if_neg c2] at h
      refine ds_icmp_ge_f (off := 21) (t := 152) (p := 134) (by decide +kernel) (by decide +kernel) rfl (fun q => c2 ((gc_le rfl rfl (by decide) z1).mp q)) ?_
      refine ds_aload_n (k := 1) (p := 135) (by decide +kernel) rfl rfl ?_
      refine ds_aload_n (k := 3) (p := 136) (by decide +kernel) rfl rfl ?_
      refine ds_iload (k := 5) (p := 138) (by decide +kernel) rfl rfl ?_
      obtain ⟨q7, w8, h⟩ := fx_bd h
      refine ds_callS (idx := 220) (mj := 254) (na := 3) (mx := 23) (p := 141) (args := [.ref 0, .ref x3, .int (Int32.ofInt x5)]) (rest := []) (al2 := [some (.ref 0), some (.ref x3), some (.int (Int32.ofInt x5)), none, none, none, none, none, none, none, none, none, none, none, none, none, none, none, none, none, none, none, none]) (S2 := q7.2) (by decide +kernel) rfl (by decide +kernel) rfl rfl rfl rfl rfl rfl (by omega) (fun d' hd' => de_254 hz (by omega) w8) rfl ?_
      obtain ⟨z9, h⟩ := fx_gd h
      by_cases c10 : ¬ q7.1 = 0
      · rw [if_pos c10] at h
        refine ds_if_ne_t (off := 5) (t := 146) (by decide +kernel) (by decide +kernel) ((gc_ne rfl rfl z9 (by decide)).mpr c10) ?_
        refine ds_iinc (k := 5) (n := 1) (p := 149) (M := 18) (y := Int32.ofInt (x5 + 1)) (al' := [o0, some (.ref 0), o2, some (.ref x3), some (.int (Int32.ofInt x4)), some (.int (Int32.ofInt (x5 + 1))), none, none, none, none, none, none, none, none, none, none, none, none]) (by decide +kernel) rfl rfl mx_236 rfl rfl (ga_add rfl rfl) rfl ?_
        refine ds_goto (off := -21) (p := 128) (by decide +kernel) (by decide +kernel) ?_
        exact ih _ _ _ _ _ _ _ _ h
      · rw [if_neg c10] at h
        refine ds_if_ne_f (off := 5) (t := 146) (p := 144) (by decide +kernel) (by decide +kernel) rfl (fun q => c10 ((gc_ne rfl rfl z9 (by decide)).mp q)) ?_
        refine ds_iconst (n := 0) (p := 145) (by decide +kernel) rfl rfl ?_
        have h := Option.some.inj h
        subst h
        exact ds_iret (by decide +kernel) rt_236 (by decide +kernel)
def dm_236_63 (L : Nat) (xs : Nat → Int32) : Nat → Int → Nat → Int → gx_S → dS → Option (Int × DS)
  | 0, _, _, _, _, _ => none
  | n + 1, x2, x3, x4, s, δ =>
    if (-2147483648 ≤ x4 ∧ x4 ≤ 2147483647) then (
    if 3 ≤ x4 then (
      (dm_238 L xs 130 s δ).bind fun q3 =>
      (dm_238 L xs 131 q3.2.1 q3.2.2).bind fun q5 =>
      (dm_242 L xs x3 q3.1 q5.1 q5.2.1 q5.2.2).bind fun q7 =>
      if (-2147483648 ≤ q7.1 ∧ q7.1 ≤ 2147483647) then (
      if ¬ q7.1 = 0 then (
        if 0 ≤ x2 ∧ x2 ≤ 2147483647 then (
        dm_236_128 L xs 100000 x3 (x2 % 3) 0 q7.2.1 q7.2.2) else none) else (
        some (0, q7.2.1, q7.2.2))) else none) else (
      (dm_241 L xs x3 (100 + (9 * x4)) x4 s δ).bind fun q12 =>
      if (-2147483648 ≤ q12.1 ∧ q12.1 ≤ 2147483647) then (
      if ¬ q12.1 = 0 then (
        dm_236_63 L xs n x2 x3 (x4 + 1) q12.2.1 q12.2.2) else (
        some (0, q12.2.1, q12.2.2))) else none)) else none
theorem de_236_63 {z : iv_Z} {L : Nat} {xs : Nat → Int32} (hz : dZ z L xs) {d : Nat} (hd : 103 ≤ d) : ∀ (n : Nat) (x2 : Int) (x3 : Nat) (x4 : Int) (s : gx_S) (δ : dS) (q : Int × DS), dm_236_63 L xs n x2 x3 x4 s δ = some q → dE z 236 d 63 [some (.retAddr 0), some (.ref 0), some (.int (Int32.ofInt x2)), some (.ref x3), some (.int (Int32.ofInt x4)), none, none, none, none, none, none, none, none, none, none, none, none, none] [] (s, δ) (some (.int (Int32.ofInt q.1))) q.2 := by
  intro n
  induction n with
  | zero =>
    intro x2 x3 x4 s δ q h
    rw [dm_236_63] at h
    exact fx_no h
  | succ n ih =>
    intro x2 x3 x4 s δ q h
    rw [dm_236_63] at h
    refine ds_iload (k := 4) (p := 65) (by decide +kernel) rfl rfl ?_
    refine ds_iconst (n := 3) (p := 66) (by decide +kernel) rfl rfl ?_
    obtain ⟨z1, h⟩ := fx_gd h
    by_cases c2 : 3 ≤ x4
    · rw [if_pos c2] at h
      refine ds_icmp_ge_t (off := 30) (t := 96) (by decide +kernel) (by decide +kernel) ((gc_le rfl rfl (by decide) z1).mpr c2) ?_
      refine ds_aload_n (k := 1) (p := 97) (by decide +kernel) rfl rfl ?_
      refine ds_aload_n (k := 3) (p := 98) (by decide +kernel) rfl rfl ?_
      refine ds_aload_n_a (k := 0) (p := 99) (by decide +kernel) rfl rfl ?_
      refine ds_sipush (n := 130) (p := 102) (by decide +kernel) rfl dks_130 ?_
      obtain ⟨q3, w4, h⟩ := fx_bd h
      refine ds_callS (idx := 42) (mj := 238) (na := 2) (mx := 2) (p := 105) (args := [.retAddr 0, .int (Int32.ofInt 130)]) (rest := [.ref x3, .ref 0]) (al2 := [some (.retAddr 0), some (.int (Int32.ofInt 130))]) (S2 := q3.2) (by decide +kernel) rfl (by decide +kernel) rfl rfl rfl rfl rfl rfl (by omega) (fun d' hd' => de_238 hz (by omega) w4) rfl ?_
      refine ds_aload_n_a (k := 0) (p := 106) (by decide +kernel) rfl rfl ?_
      refine ds_sipush (n := 131) (p := 109) (by decide +kernel) rfl dks_131 ?_
      obtain ⟨q5, w6, h⟩ := fx_bd h
      refine ds_callS (idx := 42) (mj := 238) (na := 2) (mx := 2) (p := 112) (args := [.retAddr 0, .int (Int32.ofInt 131)]) (rest := [.int (Int32.ofInt q3.1), .ref x3, .ref 0]) (al2 := [some (.retAddr 0), some (.int (Int32.ofInt 131))]) (S2 := q5.2) (by decide +kernel) rfl (by decide +kernel) rfl rfl rfl rfl rfl rfl (by omega) (fun d' hd' => de_238 hz (by omega) w6) rfl ?_
      obtain ⟨q7, w8, h⟩ := fx_bd h
      refine ds_callS (idx := 216) (mj := 242) (na := 4) (mx := 7) (p := 115) (args := [.ref 0, .ref x3, .int (Int32.ofInt q3.1), .int (Int32.ofInt q5.1)]) (rest := []) (al2 := [some (.ref 0), some (.ref x3), some (.int (Int32.ofInt q3.1)), some (.int (Int32.ofInt q5.1)), none, none, none]) (S2 := q7.2) (by decide +kernel) rfl (by decide +kernel) rfl rfl rfl rfl rfl rfl (by omega) (fun d' hd' => de_242 hz (by omega) w8) rfl ?_
      obtain ⟨z9, h⟩ := fx_gd h
      by_cases c10 : ¬ q7.1 = 0
      · rw [if_pos c10] at h
        refine ds_if_ne_t (off := 5) (t := 120) (by decide +kernel) (by decide +kernel) ((gc_ne rfl rfl z9 (by decide)).mpr c10) ?_
        refine ds_iload_n (k := 2) (p := 121) (by decide +kernel) rfl rfl ?_
        refine ds_iconst (n := 3) (p := 122) (by decide +kernel) rfl rfl ?_
        obtain ⟨z11, h⟩ := fx_gd h
        refine ds_irem (p := 123) (c := Int32.ofInt (x2 % 3)) (by decide +kernel) rfl (gc_nz rfl (x := x2) ⟨z11.1, z11.2, by decide, by decide⟩) (ga_rem rfl rfl ⟨z11.1, z11.2, by decide, by decide⟩) ?_
        refine ds_istore (k := 4) (p := 125) (M := 18) (al' := [some (.retAddr 0), some (.ref 0), some (.int (Int32.ofInt x2)), some (.ref x3), some (.int (Int32.ofInt (x2 % 3))), none, none, none, none, none, none, none, none, none, none, none, none, none]) (by decide +kernel) rfl mx_236 rfl rfl ?_
        refine ds_iconst (n := 0) (p := 126) (by decide +kernel) rfl rfl ?_
        refine ds_istore (k := 5) (p := 128) (M := 18) (al' := [some (.retAddr 0), some (.ref 0), some (.int (Int32.ofInt x2)), some (.ref x3), some (.int (Int32.ofInt (x2 % 3))), some (.int (Int32.ofInt 0)), none, none, none, none, none, none, none, none, none, none, none, none]) (by decide +kernel) rfl mx_236 rfl rfl ?_
        exact de_236_128 hz hd 100000 _ _ _ _ _ _ _ _ h
      · rw [if_neg c10] at h
        refine ds_if_ne_f (off := 5) (t := 120) (p := 118) (by decide +kernel) (by decide +kernel) rfl (fun q => c10 ((gc_ne rfl rfl z9 (by decide)).mp q)) ?_
        refine ds_iconst (n := 0) (p := 119) (by decide +kernel) rfl rfl ?_
        have h := Option.some.inj h
        subst h
        exact ds_iret (by decide +kernel) rt_236 (by decide +kernel)
    · rw [if_neg c2] at h
      refine ds_icmp_ge_f (off := 30) (t := 96) (p := 69) (by decide +kernel) (by decide +kernel) rfl (fun q => c2 ((gc_le rfl rfl (by decide) z1).mp q)) ?_
      refine ds_aload_n (k := 1) (p := 70) (by decide +kernel) rfl rfl ?_
      refine ds_aload_n (k := 3) (p := 71) (by decide +kernel) rfl rfl ?_
      refine ds_aload_n_a (k := 0) (p := 72) (by decide +kernel) rfl rfl ?_
      refine ds_bipush (n := 100) (p := 74) (by decide +kernel) rfl dkb_100 ?_
      refine ds_bipush (n := 9) (p := 76) (by decide +kernel) rfl dkb_9 ?_
      refine ds_iload (k := 4) (p := 78) (by decide +kernel) rfl rfl ?_
      refine ds_imul (p := 79) (c := Int32.ofInt (9 * x4)) (by decide +kernel) rfl (ga_mul rfl rfl) ?_
      refine ds_iadd (p := 80) (c := Int32.ofInt (100 + (9 * x4))) (by decide +kernel) rfl (ga_add rfl rfl) ?_
      refine ds_iload (k := 4) (p := 82) (by decide +kernel) rfl rfl ?_
      obtain ⟨q12, w13, h⟩ := fx_bd h
      refine ds_callS (idx := 213) (mj := 241) (na := 5) (mx := 9) (p := 85) (args := [.ref 0, .ref x3, .retAddr 0, .int (Int32.ofInt (100 + (9 * x4))), .int (Int32.ofInt x4)]) (rest := []) (al2 := [some (.ref 0), some (.ref x3), some (.retAddr 0), some (.int (Int32.ofInt (100 + (9 * x4)))), some (.int (Int32.ofInt x4)), none, none, none, none]) (S2 := q12.2) (by decide +kernel) rfl (by decide +kernel) rfl rfl rfl rfl rfl rfl (by omega) (fun d' hd' => de_241 hz (by omega) w13) rfl ?_
      obtain ⟨z14, h⟩ := fx_gd h
      by_cases c15 : ¬ q12.1 = 0
      · rw [if_pos c15] at h
        refine ds_if_ne_t (off := 5) (t := 90) (by decide +kernel) (by decide +kernel) ((gc_ne rfl rfl z14 (by decide)).mpr c15) ?_
        refine ds_iinc (k := 4) (n := 1) (p := 93) (M := 18) (y := Int32.ofInt (x4 + 1)) (al' := [some (.retAddr 0), some (.ref 0), some (.int (Int32.ofInt x2)), some (.ref x3), some (.int (Int32.ofInt (x4 + 1))), none, none, none, none, none, none, none, none, none, none, none, none, none]) (by decide +kernel) rfl rfl mx_236 rfl rfl (ga_add rfl rfl) rfl ?_
        refine ds_goto (off := -30) (p := 63) (by decide +kernel) (by decide +kernel) ?_
        exact ih _ _ _ _ _ _ h
      · rw [if_neg c15] at h
        refine ds_if_ne_f (off := 5) (t := 90) (p := 88) (by decide +kernel) (by decide +kernel) rfl (fun q => c15 ((gc_ne rfl rfl z14 (by decide)).mp q)) ?_
        refine ds_iconst (n := 0) (p := 89) (by decide +kernel) rfl rfl ?_
        have h := Option.some.inj h
        subst h
        exact ds_iret (by decide +kernel) rt_236 (by decide +kernel)
def dm_236_23 (L : Nat) (xs : Nat → Int32) (s0 : Int) (s : gx_S) (δ : dS) : Option (Int × DS) :=
  if 0 ≤ s0 ∧ s0 ≤ 2147483647 then (
  if 0 ≤ (Int32.ofInt s0 >>> (Int32.ofInt 3 &&& 31)).toInt ∧ (Int32.ofInt s0 >>> (Int32.ofInt 3 &&& 31)).toInt ≤ 2147483647 then (
  if 0 ≤ (Int32.ofInt s0 >>> (Int32.ofInt 6 &&& 31)).toInt ∧ (Int32.ofInt s0 >>> (Int32.ofInt 6 &&& 31)).toInt ≤ 2147483647 then (
  (dm_240 L xs 0 (1 + (s0 % 6)) (1 + ((Int32.ofInt s0 >>> (Int32.ofInt 3 &&& 31)).toInt % 9)) (1 + ((Int32.ofInt s0 >>> (Int32.ofInt 6 &&& 31)).toInt % 8)) s δ).bind fun q4 =>
  dm_236_63 L xs 100000 s0 q4.1 0 q4.2.1 q4.2.2) else none) else none) else none
theorem de_236_23 {z : iv_Z} {L : Nat} {xs : Nat → Int32} (hz : dZ z L xs) {d : Nat} (hd : 103 ≤ d) (s0 : Int) (s : gx_S) (δ : dS) (q : Int × DS) (h : dm_236_23 L xs  s0 s δ = some q) : dE z 236 d 23 [some (.retAddr 0), some (.ref 0), none, none, none, none, none, none, none, none, none, none, none, none, none, none, none, none] [.int (Int32.ofInt s0)] (s, δ) (some (.int (Int32.ofInt q.1))) q.2 := by
  unfold dm_236_23 at h
  refine ds_istore_n (k := 2) (p := 24) (M := 18) (al' := [some (.retAddr 0), some (.ref 0), some (.int (Int32.ofInt s0)), none, none, none, none, none, none, none, none, none, none, none, none, none, none, none]) (by decide +kernel) rfl mx_236 rfl rfl ?_
  refine ds_aload_n (k := 1) (p := 25) (by decide +kernel) rfl rfl ?_
  refine ds_aload_n_a (k := 0) (p := 26) (by decide +kernel) rfl rfl ?_
  refine ds_iconst (n := 0) (p := 27) (by decide +kernel) rfl rfl ?_
  refine ds_iconst (n := 1) (p := 28) (by decide +kernel) rfl rfl ?_
  refine ds_iload_n (k := 2) (p := 29) (by decide +kernel) rfl rfl ?_
  refine ds_bipush (n := 6) (p := 31) (by decide +kernel) rfl dkb_6 ?_
  obtain ⟨z1, h⟩ := fx_gd h
  refine ds_irem (p := 32) (c := Int32.ofInt (s0 % 6)) (by decide +kernel) rfl (gc_nz rfl (x := s0) ⟨z1.1, z1.2, by decide, by decide⟩) (ga_rem rfl rfl ⟨z1.1, z1.2, by decide, by decide⟩) ?_
  refine ds_iadd (p := 33) (c := Int32.ofInt (1 + (s0 % 6))) (by decide +kernel) rfl (ga_add rfl rfl) ?_
  refine ds_iconst (n := 1) (p := 34) (by decide +kernel) rfl rfl ?_
  refine ds_iload_n (k := 2) (p := 35) (by decide +kernel) rfl rfl ?_
  refine ds_iconst (n := 3) (p := 36) (by decide +kernel) rfl rfl ?_
  refine ds_ishr (p := 37) (c := Int32.ofInt (Int32.ofInt s0 >>> (Int32.ofInt 3 &&& 31)).toInt) (by decide +kernel) rfl (Int32.ofInt_toInt _).symm ?_
  refine ds_bipush (n := 9) (p := 39) (by decide +kernel) rfl dkb_9 ?_
  obtain ⟨z2, h⟩ := fx_gd h
  refine ds_irem (p := 40) (c := Int32.ofInt ((Int32.ofInt s0 >>> (Int32.ofInt 3 &&& 31)).toInt % 9)) (by decide +kernel) rfl (gc_nz rfl (x := ((Int32.ofInt s0 >>> (Int32.ofInt 3 &&& 31)).toInt)) ⟨z2.1, z2.2, by decide, by decide⟩) (ga_rem rfl rfl ⟨z2.1, z2.2, by decide, by decide⟩) ?_
  refine ds_iadd (p := 41) (c := Int32.ofInt (1 + ((Int32.ofInt s0 >>> (Int32.ofInt 3 &&& 31)).toInt % 9))) (by decide +kernel) rfl (ga_add rfl rfl) ?_
  refine ds_iconst (n := 1) (p := 42) (by decide +kernel) rfl rfl ?_
  refine ds_iload_n (k := 2) (p := 43) (by decide +kernel) rfl rfl ?_
  refine ds_bipush (n := 6) (p := 45) (by decide +kernel) rfl dkb_6 ?_
  refine ds_ishr (p := 46) (c := Int32.ofInt (Int32.ofInt s0 >>> (Int32.ofInt 6 &&& 31)).toInt) (by decide +kernel) rfl (Int32.ofInt_toInt _).symm ?_
  refine ds_bipush (n := 8) (p := 48) (by decide +kernel) rfl dkb_8 ?_
  obtain ⟨z3, h⟩ := fx_gd h
  refine ds_irem (p := 49) (c := Int32.ofInt ((Int32.ofInt s0 >>> (Int32.ofInt 6 &&& 31)).toInt % 8)) (by decide +kernel) rfl (gc_nz rfl (x := ((Int32.ofInt s0 >>> (Int32.ofInt 6 &&& 31)).toInt)) ⟨z3.1, z3.2, by decide, by decide⟩) (ga_rem rfl rfl ⟨z3.1, z3.2, by decide, by decide⟩) ?_
  refine ds_iadd (p := 50) (c := Int32.ofInt (1 + ((Int32.ofInt s0 >>> (Int32.ofInt 6 &&& 31)).toInt % 8))) (by decide +kernel) rfl (ga_add rfl rfl) ?_
  obtain ⟨q4, w5, h⟩ := fx_bd h
  refine ds_callS (idx := 209) (mj := 240) (na := 6) (mx := 13) (p := 53) (args := [.ref 0, .retAddr 0, .int (Int32.ofInt 0), .int (Int32.ofInt (1 + (s0 % 6))), .int (Int32.ofInt (1 + ((Int32.ofInt s0 >>> (Int32.ofInt 3 &&& 31)).toInt % 9))), .int (Int32.ofInt (1 + ((Int32.ofInt s0 >>> (Int32.ofInt 6 &&& 31)).toInt % 8)))]) (rest := []) (al2 := [some (.ref 0), some (.retAddr 0), some (.int (Int32.ofInt 0)), some (.int (Int32.ofInt (1 + (s0 % 6)))), some (.int (Int32.ofInt (1 + ((Int32.ofInt s0 >>> (Int32.ofInt 3 &&& 31)).toInt % 9)))), some (.int (Int32.ofInt (1 + ((Int32.ofInt s0 >>> (Int32.ofInt 6 &&& 31)).toInt % 8)))), none, none, none, none, none, none, none]) (S2 := q4.2) (by decide +kernel) rfl (by decide +kernel) rfl rfl rfl rfl rfl rfl (by omega) (fun d' hd' => de_240 hz (by omega) w5) rfl ?_
  refine ds_astore_n (k := 3) (p := 54) (M := 18) (al' := [some (.retAddr 0), some (.ref 0), some (.int (Int32.ofInt s0)), some (.ref q4.1), none, none, none, none, none, none, none, none, none, none, none, none, none, none]) (by decide +kernel) rfl mx_236 rfl rfl ?_
  refine ds_aload_n (k := 3) (p := 55) (by decide +kernel) rfl rfl ?_
  refine ds_ifnonnull (off := 5) (t := 60) (by decide +kernel) (by decide +kernel) ?_
  refine ds_iconst (n := 0) (p := 61) (by decide +kernel) rfl rfl ?_
  refine ds_istore (k := 4) (p := 63) (M := 18) (al' := [some (.retAddr 0), some (.ref 0), some (.int (Int32.ofInt s0)), some (.ref q4.1), some (.int (Int32.ofInt 0)), none, none, none, none, none, none, none, none, none, none, none, none, none]) (by decide +kernel) rfl mx_236 rfl rfl ?_
  exact de_236_63 hz hd 100000 _ _ _ _ _ _ h
def dm_236 (L : Nat) (xs : Nat → Int32) (s : gx_S) (δ : dS) : Option (Int × DS) :=
  if (-2147483648 ≤ (L : Int) ∧ (L : Int) ≤ 2147483647) then (
  if (L : Int) ≤ 0 then (
    dm_236_23 L xs 5 s δ) else (
    if 0 ≤ (0 : Int) ∧ (0 : Int) < (L : Int) then (
    dm_236_23 L xs ((Int32.ofInt ((xs ((0 : Int).toNat)).toInt) &&& Int32.ofInt 2147483647).toInt) s δ) else none)) else none
theorem de_236 {z : iv_Z} {L : Nat} {xs : Nat → Int32} (hz : dZ z L xs) {d : Nat} (hd : 103 ≤ d) {s : gx_S} {δ : dS} {q : Int × DS} (h : dm_236 L xs s δ = some q) : dE z 236 d 8 [some (.retAddr 0), some (.ref 0), none, none, none, none, none, none, none, none, none, none, none, none, none, none, none, none] [] (s, δ) (some (.int (Int32.ofInt q.1))) q.2 := by
  unfold dm_236 at h
  refine ds_aload_n_a (k := 0) (p := 9) (by decide +kernel) rfl rfl ?_
  refine ds_alen_a (m := (L : Int)) (p := 10) (by decide +kernel) rfl (dz_a0 hz) rfl ?_
  obtain ⟨z1, h⟩ := fx_gd h
  by_cases c2 : (L : Int) ≤ 0
  · rw [if_pos c2] at h
    refine ds_if_le_t (off := 12) (t := 22) (by decide +kernel) (by decide +kernel) ((gc_le rfl rfl z1 (by decide)).mpr c2) ?_
    refine ds_iconst (n := 5) (p := 23) (by decide +kernel) rfl rfl ?_
    exact de_236_23 hz hd _ _ _ _ h
  · rw [if_neg c2] at h
    refine ds_if_le_f (off := 12) (t := 22) (p := 13) (by decide +kernel) (by decide +kernel) rfl (fun q => c2 ((gc_le rfl rfl z1 (by decide)).mp q)) ?_
    refine ds_aload_n_a (k := 0) (p := 14) (by decide +kernel) rfl rfl ?_
    refine ds_iconst (n := 0) (p := 15) (by decide +kernel) rfl rfl ?_
    obtain ⟨z3, h⟩ := fx_gd h
    refine ds_iaload_a (p := 16) (by decide +kernel) rfl (dz_a0 hz) (dz_n0 hz) z3 ?_
    refine ds_ldc (idx := 27) (p := 18) (x := Int32.ofInt 2147483647) (by decide +kernel) rfl (by decide +kernel) ?_
    refine ds_iand (p := 19) (c := Int32.ofInt (Int32.ofInt ((xs ((0 : Int).toNat)).toInt) &&& Int32.ofInt 2147483647).toInt) (by decide +kernel) rfl (Int32.ofInt_toInt _).symm ?_
    refine ds_goto (off := 4) (p := 23) (by decide +kernel) (by decide +kernel) ?_
    exact de_236_23 hz hd _ _ _ _ h
