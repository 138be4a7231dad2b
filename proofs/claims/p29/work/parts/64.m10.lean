/-! ZoneSharesModel.movedAll()I -/
theorem mx_224 : iv_mx 224 = 3 := by decide +kernel
theorem rt_224 : iv_rt 224 = some .int := by decide +kernel
def fm_224_38 (x1 : Int32) (σ : fx_S) : Option (Int32 × fx_S) :=
  some (x1, σ)
theorem fe_224_38 {d : Nat} (hd : 31 ≤ d) (x1 : Int32) (o0 : Option Value) (o2 : Option Value) (σ : fx_S) (q : Int32 × fx_S) (h : fm_224_38  x1 σ = some q) : fx_E none 224 d 38 [o0, some (.int x1), o2] [] σ (some (.int q.1)) q.2 := by
  unfold fm_224_38 at h
  refine fs_iload_n (k := 1) (p := 39) (by decide +kernel) rfl rfl ?_
  have h := Option.some.inj h
  subst h
  exact fs_iret (by decide +kernel) rt_224
def fm_224_4 : Nat → Int32 → Int32 → fx_S → Option (Int32 × fx_S)
  | 0, _, _, _ => none
  | n + 1, x1, x2, σ =>
    if (3 : Int32) ≤ x2 then (
      fm_224_38 x1 σ) else (
      (fm_150 σ).bind fun q4 =>
      if (fx_b q4.1) = 0 then (
        fm_224_38 x1 q4.2) else (
        (fm_181 x2 q4.2).bind fun q7 =>
        (fm_173 q7).bind fun q9 =>
        (fm_184 q9).bind fun q11 =>
        fm_224_4 n (x1 + q11.1) (x2 + (1 : Int32)) q11.2))
theorem fe_224_4 {d : Nat} (hd : 31 ≤ d) : ∀ (n : Nat) (x1 : Int32) (x2 : Int32) (σ : fx_S) (q : Int32 × fx_S), fm_224_4 n x1 x2 σ = some q → fx_E none 224 d 4 [some (.ref 215), some (.int x1), some (.int x2)] [] σ (some (.int q.1)) q.2 := by
  intro n
  induction n with
  | zero =>
    intro x1 x2 σ q  h
    rw [fm_224_4] at h
    exact fx_no h
  | succ n ih =>
    intro x1 x2 σ q  h
    rw [fm_224_4] at h
    refine fs_iload_n (k := 2) (p := 5) (by decide +kernel) rfl rfl ?_
    refine fs_iconst (n := 3) (p := 6) (by decide +kernel) rfl kc_3 ?_
    by_cases c2 : (3 : Int32) ≤ x2
    · rw [if_pos c2] at h
      refine fs_icmp_ge_t (off := 32) (t := 38) (by decide +kernel) (by decide +kernel) c2 ?_
      exact fe_224_38 hd _ _ _ _ _ h
    · rw [if_neg c2] at h
      refine fs_icmp_ge_f (off := 32) (t := 38) (p := 9) (by decide +kernel) (by decide +kernel) rfl c2 ?_
      refine fs_aload_n (k := 0) (p := 10) (by decide +kernel) rfl rfl ?_
      obtain ⟨q4, w3, h⟩ := fx_bd h
      refine fs_callV (idx := 303) (mj := 150) (ci := 10) (na := 0) (mx := 1) (p := 13) (args := [.ref 215]) (rest := []) (al2 := [some (.ref 215)]) (by decide +kernel) rfl (by decide +kernel) fo_215 rfl rfl rfl rfl rfl rfl rfl (by omega) (fun d' hd' => fe_150 (by omega) w3) rfl ?_
      by_cases c5 : (fx_b q4.1) = 0
      · rw [if_pos c5] at h
        refine fs_if_eq_t (off := 25) (t := 38) (by decide +kernel) (by decide +kernel) c5 ?_
        exact fe_224_38 hd _ _ _ _ _ h
      · rw [if_neg c5] at h
        refine fs_if_eq_f (off := 25) (t := 38) (p := 16) (by decide +kernel) (by decide +kernel) rfl c5 ?_
        refine fs_aload_n (k := 0) (p := 17) (by decide +kernel) rfl rfl ?_
        refine fs_iload_n (k := 2) (p := 18) (by decide +kernel) rfl rfl ?_
        obtain ⟨q7, w6, h⟩ := fx_bd h
        refine fs_callV (idx := 312) (mj := 181) (ci := 10) (na := 1) (mx := 5) (p := 21) (args := [.ref 215, .int x2]) (rest := []) (al2 := [some (.ref 215), some (.int x2), none, none, none]) (by decide +kernel) rfl (by decide +kernel) fo_215 rfl rfl rfl rfl rfl rfl rfl (by omega) (fun d' hd' => fe_181 (by omega) w6) rfl ?_
        refine fs_aload_n (k := 0) (p := 22) (by decide +kernel) rfl rfl ?_
        obtain ⟨q9, w8, h⟩ := fx_bd h
        refine fs_callV (idx := 315) (mj := 173) (ci := 10) (na := 0) (mx := 2) (p := 25) (args := [.ref 215]) (rest := []) (al2 := [some (.ref 215), none]) (by decide +kernel) rfl (by decide +kernel) fo_215 rfl rfl rfl rfl rfl rfl rfl (by omega) (fun d' hd' => fe_173 (by omega) w8) rfl ?_
        refine fs_iload_n (k := 1) (p := 26) (by decide +kernel) rfl rfl ?_
        refine fs_aload_n (k := 0) (p := 27) (by decide +kernel) rfl rfl ?_
        obtain ⟨q11, w10, h⟩ := fx_bd h
        refine fs_callV (idx := 318) (mj := 184) (ci := 10) (na := 0) (mx := 3) (p := 30) (args := [.ref 215]) (rest := [.int x1]) (al2 := [some (.ref 215), none, none]) (by decide +kernel) rfl (by decide +kernel) fo_215 rfl rfl rfl rfl rfl rfl rfl (by omega) (fun d' hd' => fe_184 (by omega) w10) rfl ?_
        refine fs_iadd (p := 31) (by decide +kernel) rfl ?_
        refine fs_istore_n (k := 1) (p := 32) (M := 3) (al' := [some (.ref 215), some (.int (x1 + q11.1)), some (.int x2)]) (by decide +kernel) rfl mx_224 rfl rfl ?_
        refine fs_iinc (k := 2) (n := 1) (p := 35) (M := 3) (al' := [some (.ref 215), some (.int (x1 + q11.1)), some (.int (x2 + (1 : Int32)))]) (by decide +kernel) rfl kc_1 mx_224 rfl rfl rfl ?_
        refine fs_goto (off := -31) (p := 4) (by decide +kernel) (by decide +kernel) ?_
        exact ih _ _ _ _ h
def fm_224 (σ : fx_S) : Option (Int32 × fx_S) :=
  fm_224_4 100000 (0 : Int32) (0 : Int32) σ
theorem fe_224 {d : Nat} (hd : 31 ≤ d) {σ : fx_S} {q : Int32 × fx_S} (h : fm_224 σ = some q) : fx_E none 224 d 0 [some (.ref 215), none, none] [] σ (some (.int q.1)) q.2 := by
  unfold fm_224 at h
  refine fs_iconst (n := 0) (p := 1) (by decide +kernel) rfl kc_0 ?_
  refine fs_istore_n (k := 1) (p := 2) (M := 3) (al' := [some (.ref 215), some (.int (0 : Int32)), none]) (by decide +kernel) rfl mx_224 rfl rfl ?_
  refine fs_iconst (n := 0) (p := 3) (by decide +kernel) rfl kc_0 ?_
  refine fs_istore_n (k := 2) (p := 4) (M := 3) (al' := [some (.ref 215), some (.int (0 : Int32)), some (.int (0 : Int32))]) (by decide +kernel) rfl mx_224 rfl rfl ?_
  exact fe_224_4 hd 100000 _ _ _ _ h

/-! ZoneSharesModel.count(I)I -/
theorem mx_226 : iv_mx 226 = 2 := by decide +kernel
theorem rt_226 : iv_rt 226 = some .int := by decide +kernel
def fm_226 (x1 : Int32) (σ : fx_S) : Option (Int32 × fx_S) :=
  if x1 = (0 : Int32) then (
    (fm_151 σ).bind fun q66 =>
    some (q66.1, q66.2)) else (
    if x1 = (1 : Int32) then (
      (fx_ld σ 216 (0 : Int32)).bind fun v63 =>
      some (v63, σ)) else (
      if x1 = (2 : Int32) then (
        (fm_154 (0 : Int32) (8 : Int32) σ).bind fun q62 =>
        some (q62.1, q62.2)) else (
        if x1 = (3 : Int32) then (
          (fm_154 (1 : Int32) (8 : Int32) σ).bind fun q60 =>
          some (q60.1, q60.2)) else (
          if x1 = (4 : Int32) then (
            (fm_154 (2 : Int32) (4 : Int32) σ).bind fun q58 =>
            some (q58.1, q58.2)) else (
            if x1 = (5 : Int32) then (
              (fx_ld σ 216 (3 : Int32)).bind fun v55 =>
              some (v55, σ)) else (
              if x1 = (6 : Int32) then (
                (fx_ld σ 216 (4 : Int32)).bind fun v53 =>
                some (v53, σ)) else (
                if x1 = (7 : Int32) then (
                  (fx_ld σ 216 (2 : Int32)).bind fun v51 =>
                  some (v51, σ)) else (
                  if x1 = (8 : Int32) then (
                    some ((σ.1 215 2), σ)) else (
                    if x1 = (9 : Int32) then (
                      some ((σ.1 215 4), σ)) else (
                      if x1 = (10 : Int32) then (
                        (fm_224 σ).bind fun q50 =>
                        some (q50.1, q50.2)) else (
                        if x1 = (11 : Int32) then (
                          (fm_225 σ).bind fun q48 =>
                          some (q48.1, q48.2)) else (
                          some ((-1 : Int32), σ)))))))))))))
theorem fe_226 {d : Nat} (hd : 32 ≤ d) {x1 : Int32} {σ : fx_S} {q : Int32 × fx_S} (h : fm_226 x1 σ = some q) : fx_E none 226 d 0 [some (.ref 215), some (.int x1)] [] σ (some (.int q.1)) q.2 := by
  unfold fm_226 at h
  refine fs_iload_n (k := 1) (p := 1) (by decide +kernel) rfl rfl ?_
  by_cases c34 : x1 = (0 : Int32)
  · rw [if_pos c34] at h
    refine fs_tsw_h (dflt := 139) (lo := 0) (hi := 11) (offs := #[63, 68, 75, 83, 91, 98, 105, 112, 119, 124, 129, 134]) (x := x1) (j := 0) (t := 64) (by decide +kernel) (by decide +kernel) (by decide) (c34.trans (by decide)) ?_
    refine fs_aload_n (k := 0) (p := 65) (by decide +kernel) rfl rfl ?_
    obtain ⟨q66, w65, h⟩ := fx_bd h
    refine fs_callV (idx := 196) (mj := 151) (ci := 10) (na := 0) (mx := 1) (p := 68) (args := [.ref 215]) (rest := []) (al2 := [some (.ref 215)]) (by decide +kernel) rfl (by decide +kernel) fo_215 rfl rfl rfl rfl rfl rfl rfl (by omega) (fun d' hd' => fe_151 (by omega) w65) rfl ?_
    have h := Option.some.inj h
    subst h
    exact fs_iret (by decide +kernel) rt_226
  · rw [if_neg c34] at h
    by_cases c35 : x1 = (1 : Int32)
    · rw [if_pos c35] at h
      refine fs_tsw_h (dflt := 139) (lo := 0) (hi := 11) (offs := #[63, 68, 75, 83, 91, 98, 105, 112, 119, 124, 129, 134]) (x := x1) (j := 1) (t := 69) (by decide +kernel) (by decide +kernel) (by decide) (c35.trans (by decide)) ?_
      refine fs_aload_n (k := 0) (p := 70) (by decide +kernel) rfl rfl ?_
      refine fs_gfr (idx := 9) (ci := 10) (j := 0) (p := 73) (by decide +kernel) rfl (by decide +kernel) fo_215 (fr_a215_0) ?_
      refine fs_iconst (n := 0) (p := 74) (by decide +kernel) rfl kc_0 ?_
      obtain ⟨v63, w64, h⟩ := fx_bd h
      refine fs_iaload (p := 75) (by decide +kernel) rfl w64 ?_
      have h := Option.some.inj h
      subst h
      exact fs_iret (by decide +kernel) rt_226
    · rw [if_neg c35] at h
      by_cases c36 : x1 = (2 : Int32)
      · rw [if_pos c36] at h
        refine fs_tsw_h (dflt := 139) (lo := 0) (hi := 11) (offs := #[63, 68, 75, 83, 91, 98, 105, 112, 119, 124, 129, 134]) (x := x1) (j := 2) (t := 76) (by decide +kernel) (by decide +kernel) (by decide) (c36.trans (by decide)) ?_
        refine fs_aload_n (k := 0) (p := 77) (by decide +kernel) rfl rfl ?_
        refine fs_iconst (n := 0) (p := 78) (by decide +kernel) rfl kc_0 ?_
        refine fs_bipush (n := 8) (p := 80) (by decide +kernel) rfl kb_8 ?_
        obtain ⟨q62, w61, h⟩ := fx_bd h
        refine fs_callV (idx := 267) (mj := 154) (ci := 10) (na := 2) (mx := 5) (p := 83) (args := [.ref 215, .int (0 : Int32), .int (8 : Int32)]) (rest := []) (al2 := [some (.ref 215), some (.int (0 : Int32)), some (.int (8 : Int32)), none, none]) (by decide +kernel) rfl (by decide +kernel) fo_215 rfl rfl rfl rfl rfl rfl rfl (by omega) (fun d' hd' => fe_154 (by omega) w61) rfl ?_
        have h := Option.some.inj h
        subst h
        exact fs_iret (by decide +kernel) rt_226
      · rw [if_neg c36] at h
        by_cases c37 : x1 = (3 : Int32)
        · rw [if_pos c37] at h
          refine fs_tsw_h (dflt := 139) (lo := 0) (hi := 11) (offs := #[63, 68, 75, 83, 91, 98, 105, 112, 119, 124, 129, 134]) (x := x1) (j := 3) (t := 84) (by decide +kernel) (by decide +kernel) (by decide) (c37.trans (by decide)) ?_
          refine fs_aload_n (k := 0) (p := 85) (by decide +kernel) rfl rfl ?_
          refine fs_iconst (n := 1) (p := 86) (by decide +kernel) rfl kc_1 ?_
          refine fs_bipush (n := 8) (p := 88) (by decide +kernel) rfl kb_8 ?_
          obtain ⟨q60, w59, h⟩ := fx_bd h
          refine fs_callV (idx := 267) (mj := 154) (ci := 10) (na := 2) (mx := 5) (p := 91) (args := [.ref 215, .int (1 : Int32), .int (8 : Int32)]) (rest := []) (al2 := [some (.ref 215), some (.int (1 : Int32)), some (.int (8 : Int32)), none, none]) (by decide +kernel) rfl (by decide +kernel) fo_215 rfl rfl rfl rfl rfl rfl rfl (by omega) (fun d' hd' => fe_154 (by omega) w59) rfl ?_
          have h := Option.some.inj h
          subst h
          exact fs_iret (by decide +kernel) rt_226
        · rw [if_neg c37] at h
          by_cases c38 : x1 = (4 : Int32)
          · rw [if_pos c38] at h
            refine fs_tsw_h (dflt := 139) (lo := 0) (hi := 11) (offs := #[63, 68, 75, 83, 91, 98, 105, 112, 119, 124, 129, 134]) (x := x1) (j := 4) (t := 92) (by decide +kernel) (by decide +kernel) (by decide) (c38.trans (by decide)) ?_
            refine fs_aload_n (k := 0) (p := 93) (by decide +kernel) rfl rfl ?_
            refine fs_iconst (n := 2) (p := 94) (by decide +kernel) rfl kc_2 ?_
            refine fs_iconst (n := 4) (p := 95) (by decide +kernel) rfl kc_4 ?_
            obtain ⟨q58, w57, h⟩ := fx_bd h
            refine fs_callV (idx := 267) (mj := 154) (ci := 10) (na := 2) (mx := 5) (p := 98) (args := [.ref 215, .int (2 : Int32), .int (4 : Int32)]) (rest := []) (al2 := [some (.ref 215), some (.int (2 : Int32)), some (.int (4 : Int32)), none, none]) (by decide +kernel) rfl (by decide +kernel) fo_215 rfl rfl rfl rfl rfl rfl rfl (by omega) (fun d' hd' => fe_154 (by omega) w57) rfl ?_
            have h := Option.some.inj h
            subst h
            exact fs_iret (by decide +kernel) rt_226
          · rw [if_neg c38] at h
            by_cases c39 : x1 = (5 : Int32)
            · rw [if_pos c39] at h
              refine fs_tsw_h (dflt := 139) (lo := 0) (hi := 11) (offs := #[63, 68, 75, 83, 91, 98, 105, 112, 119, 124, 129, 134]) (x := x1) (j := 5) (t := 99) (by decide +kernel) (by decide +kernel) (by decide) (c39.trans (by decide)) ?_
              refine fs_aload_n (k := 0) (p := 100) (by decide +kernel) rfl rfl ?_
              refine fs_gfr (idx := 9) (ci := 10) (j := 0) (p := 103) (by decide +kernel) rfl (by decide +kernel) fo_215 (fr_a215_0) ?_
              refine fs_iconst (n := 3) (p := 104) (by decide +kernel) rfl kc_3 ?_
              obtain ⟨v55, w56, h⟩ := fx_bd h
              refine fs_iaload (p := 105) (by decide +kernel) rfl w56 ?_
              have h := Option.some.inj h
              subst h
              exact fs_iret (by decide +kernel) rt_226
            · rw [if_neg c39] at h
              by_cases c40 : x1 = (6 : Int32)
              · rw [if_pos c40] at h
                refine fs_tsw_h (dflt := 139) (lo := 0) (hi := 11) (offs := #[63, 68, 75, 83, 91, 98, 105, 112, 119, 124, 129, 134]) (x := x1) (j := 6) (t := 106) (by decide +kernel) (by decide +kernel) (by decide) (c40.trans (by decide)) ?_
                refine fs_aload_n (k := 0) (p := 107) (by decide +kernel) rfl rfl ?_
                refine fs_gfr (idx := 9) (ci := 10) (j := 0) (p := 110) (by decide +kernel) rfl (by decide +kernel) fo_215 (fr_a215_0) ?_
                refine fs_iconst (n := 4) (p := 111) (by decide +kernel) rfl kc_4 ?_
                obtain ⟨v53, w54, h⟩ := fx_bd h
                refine fs_iaload (p := 112) (by decide +kernel) rfl w54 ?_
                have h := Option.some.inj h
                subst h
                exact fs_iret (by decide +kernel) rt_226
              · rw [if_neg c40] at h
                by_cases c41 : x1 = (7 : Int32)
                · rw [if_pos c41] at h
                  refine fs_tsw_h (dflt := 139) (lo := 0) (hi := 11) (offs := #[63, 68, 75, 83, 91, 98, 105, 112, 119, 124, 129, 134]) (x := x1) (j := 7) (t := 113) (by decide +kernel) (by decide +kernel) (by decide) (c41.trans (by decide)) ?_
                  refine fs_aload_n (k := 0) (p := 114) (by decide +kernel) rfl rfl ?_
                  refine fs_gfr (idx := 9) (ci := 10) (j := 0) (p := 117) (by decide +kernel) rfl (by decide +kernel) fo_215 (fr_a215_0) ?_
                  refine fs_iconst (n := 2) (p := 118) (by decide +kernel) rfl kc_2 ?_
                  obtain ⟨v51, w52, h⟩ := fx_bd h
                  refine fs_iaload (p := 119) (by decide +kernel) rfl w52 ?_
                  have h := Option.some.inj h
                  subst h
                  exact fs_iret (by decide +kernel) rt_226
                · rw [if_neg c41] at h
                  by_cases c42 : x1 = (8 : Int32)
                  · rw [if_pos c42] at h
                    refine fs_tsw_h (dflt := 139) (lo := 0) (hi := 11) (offs := #[63, 68, 75, 83, 91, 98, 105, 112, 119, 124, 129, 134]) (x := x1) (j := 8) (t := 120) (by decide +kernel) (by decide +kernel) (by decide) (c42.trans (by decide)) ?_
                    refine fs_aload_n (k := 0) (p := 121) (by decide +kernel) rfl rfl ?_
                    refine fs_gfi (idx := 103) (ci := 10) (j := 2) (p := 124) (by decide +kernel) rfl (by decide +kernel) fo_215 ?_
                    have h := Option.some.inj h
                    subst h
                    exact fs_iret (by decide +kernel) rt_226
                  · rw [if_neg c42] at h
                    by_cases c43 : x1 = (9 : Int32)
                    · rw [if_pos c43] at h
                      refine fs_tsw_h (dflt := 139) (lo := 0) (hi := 11) (offs := #[63, 68, 75, 83, 91, 98, 105, 112, 119, 124, 129, 134]) (x := x1) (j := 9) (t := 125) (by decide +kernel) (by decide +kernel) (by decide) (c43.trans (by decide)) ?_
                      refine fs_aload_n (k := 0) (p := 126) (by decide +kernel) rfl rfl ?_
                      refine fs_gfi (idx := 107) (ci := 10) (j := 4) (p := 129) (by decide +kernel) rfl (by decide +kernel) fo_215 ?_
                      have h := Option.some.inj h
                      subst h
                      exact fs_iret (by decide +kernel) rt_226
                    · rw [if_neg c43] at h
                      by_cases c44 : x1 = (10 : Int32)
                      · rw [if_pos c44] at h
                        refine fs_tsw_h (dflt := 139) (lo := 0) (hi := 11) (offs := #[63, 68, 75, 83, 91, 98, 105, 112, 119, 124, 129, 134]) (x := x1) (j := 10) (t := 130) (by decide +kernel) (by decide +kernel) (by decide) (c44.trans (by decide)) ?_
                        refine fs_aload_n (k := 0) (p := 131) (by decide +kernel) rfl rfl ?_
                        obtain ⟨q50, w49, h⟩ := fx_bd h
                        refine fs_callV (idx := 449) (mj := 224) (ci := 10) (na := 0) (mx := 3) (p := 134) (args := [.ref 215]) (rest := []) (al2 := [some (.ref 215), none, none]) (by decide +kernel) rfl (by decide +kernel) fo_215 rfl rfl rfl rfl rfl rfl rfl (by omega) (fun d' hd' => fe_224 (by omega) w49) rfl ?_
                        have h := Option.some.inj h
                        subst h
                        exact fs_iret (by decide +kernel) rt_226
                      · rw [if_neg c44] at h
                        by_cases c45 : x1 = (11 : Int32)
                        · rw [if_pos c45] at h
                          refine fs_tsw_h (dflt := 139) (lo := 0) (hi := 11) (offs := #[63, 68, 75, 83, 91, 98, 105, 112, 119, 124, 129, 134]) (x := x1) (j := 11) (t := 135) (by decide +kernel) (by decide +kernel) (by decide) (c45.trans (by decide)) ?_
                          refine fs_aload_n (k := 0) (p := 136) (by decide +kernel) rfl rfl ?_
                          obtain ⟨q48, w47, h⟩ := fx_bd h
                          refine fs_callV (idx := 452) (mj := 225) (ci := 10) (na := 0) (mx := 3) (p := 139) (args := [.ref 215]) (rest := []) (al2 := [some (.ref 215), none, none]) (by decide +kernel) rfl (by decide +kernel) fo_215 rfl rfl rfl rfl rfl rfl rfl (by omega) (fun d' hd' => fe_225 (by omega) w47) rfl ?_
                          have h := Option.some.inj h
                          subst h
                          exact fs_iret (by decide +kernel) rt_226
                        · rw [if_neg c45] at h
                          refine fs_tsw_d (dflt := 139) (lo := 0) (hi := 11) (offs := #[63, 68, 75, 83, 91, 98, 105, 112, 119, 124, 129, 134]) (x := x1) (t := 140) (by decide +kernel) (by decide +kernel) (by decide) (by decide) (fun j hj => by match j, hj with | 0, _ => exact c34 | 1, _ => exact c35 | 2, _ => exact c36 | 3, _ => exact c37 | 4, _ => exact c38 | 5, _ => exact c39 | 6, _ => exact c40 | 7, _ => exact c41 | 8, _ => exact c42 | 9, _ => exact c43 | 10, _ => exact c44 | 11, _ => exact c45) ?_
                          refine fs_iconst (n := -1) (p := 141) (by decide +kernel) rfl kc_m1 ?_
                          have h := Option.some.inj h
                          subst h
                          exact fs_iret (by decide +kernel) rt_226
