/-! ZoneSharesModel.count(I)I -/
def gm_226 (x1 : Int) (s : gx_S) : Option (Int × gx_S) :=
  if (-2147483648 ≤ x1 ∧ x1 ≤ 2147483647) then (
  if x1 = 0 then (
    (gm_151 s).bind fun q66 =>
    some (q66.1, q66.2)) else (
    if x1 = 1 then (
      some ((s.1 216 0), s)) else (
      if x1 = 2 then (
        (gm_154 0 8 s).bind fun q62 =>
        some (q62.1, q62.2)) else (
        if x1 = 3 then (
          (gm_154 1 8 s).bind fun q60 =>
          some (q60.1, q60.2)) else (
          if x1 = 4 then (
            (gm_154 2 4 s).bind fun q58 =>
            some (q58.1, q58.2)) else (
            if x1 = 5 then (
              some ((s.1 216 3), s)) else (
              if x1 = 6 then (
                some ((s.1 216 4), s)) else (
                if x1 = 7 then (
                  some ((s.1 216 2), s)) else (
                  if x1 = 8 then (
                    some ((s.1 215 2), s)) else (
                    if x1 = 9 then (
                      some ((s.1 215 4), s)) else (
                      if x1 = 10 then (
                        (gm_224 s).bind fun q50 =>
                        some (q50.1, q50.2)) else (
                        if x1 = 11 then (
                          (gm_225 s).bind fun q48 =>
                          some (q48.1, q48.2)) else (
                          some ((-1), s)))))))))))))) else none
theorem gf_226 {x1 : Int} {yx1 : Int32} (e1 : yx1 = Int32.ofInt x1) {s : gx_S} {σ : fx_S} (es : σ = gx s) {q : Int × gx_S} (h : gm_226 x1 s = some q) : fm_226 yx1 σ = some (Int32.ofInt q.1, gx q.2) := by
  unfold gm_226 at h
  unfold fm_226
  obtain ⟨z46, h⟩ := fx_gd h
  by_cases c34 : x1 = 0
  · rw [if_pos c34] at h
    refine gb_t ((gc_eq e1 kg_0 z46 (by decide)).mpr c34) ?_
    obtain ⟨q66, w65, h⟩ := fx_bd h
    refine gb_bind (gf_151 es w65) ?_
    have h := Option.some.inj h
    subst h
    exact gret (gr q66.1) (rfl : _ = gx q66.2)
  · rw [if_neg c34] at h
    refine gb_f (fun q => c34 ((gc_eq e1 kg_0 z46 (by decide)).mp q)) ?_
    by_cases c35 : x1 = 1
    · rw [if_pos c35] at h
      refine gb_t ((gc_eq e1 kg_1 z46 (by decide)).mpr c35) ?_
      refine gb_bind (gl_ld es kg_0 ga_216 (by decide)) ?_
      have h := Option.some.inj h
      subst h
      exact gret (gr (s.1 216 0)) es
    · rw [if_neg c35] at h
      refine gb_f (fun q => c35 ((gc_eq e1 kg_1 z46 (by decide)).mp q)) ?_
      by_cases c36 : x1 = 2
      · rw [if_pos c36] at h
        refine gb_t ((gc_eq e1 kg_2 z46 (by decide)).mpr c36) ?_
        obtain ⟨q62, w61, h⟩ := fx_bd h
        refine gb_bind (gf_154 kg_0 kg_8 es w61) ?_
        have h := Option.some.inj h
        subst h
        exact gret (gr q62.1) (rfl : _ = gx q62.2)
      · rw [if_neg c36] at h
        refine gb_f (fun q => c36 ((gc_eq e1 kg_2 z46 (by decide)).mp q)) ?_
        by_cases c37 : x1 = 3
        · rw [if_pos c37] at h
          refine gb_t ((gc_eq e1 kg_3 z46 (by decide)).mpr c37) ?_
          obtain ⟨q60, w59, h⟩ := fx_bd h
          refine gb_bind (gf_154 kg_1 kg_8 es w59) ?_
          have h := Option.some.inj h
          subst h
          exact gret (gr q60.1) (rfl : _ = gx q60.2)
        · rw [if_neg c37] at h
          refine gb_f (fun q => c37 ((gc_eq e1 kg_3 z46 (by decide)).mp q)) ?_
          by_cases c38 : x1 = 4
          · rw [if_pos c38] at h
            refine gb_t ((gc_eq e1 kg_4 z46 (by decide)).mpr c38) ?_
            obtain ⟨q58, w57, h⟩ := fx_bd h
            refine gb_bind (gf_154 kg_2 kg_4 es w57) ?_
            have h := Option.some.inj h
            subst h
            exact gret (gr q58.1) (rfl : _ = gx q58.2)
          · rw [if_neg c38] at h
            refine gb_f (fun q => c38 ((gc_eq e1 kg_4 z46 (by decide)).mp q)) ?_
            by_cases c39 : x1 = 5
            · rw [if_pos c39] at h
              refine gb_t ((gc_eq e1 kg_5 z46 (by decide)).mpr c39) ?_
              refine gb_bind (gl_ld es kg_3 ga_216 (by decide)) ?_
              have h := Option.some.inj h
              subst h
              exact gret (gr (s.1 216 3)) es
            · rw [if_neg c39] at h
              refine gb_f (fun q => c39 ((gc_eq e1 kg_5 z46 (by decide)).mp q)) ?_
              by_cases c40 : x1 = 6
              · rw [if_pos c40] at h
                refine gb_t ((gc_eq e1 kg_6 z46 (by decide)).mpr c40) ?_
                refine gb_bind (gl_ld es kg_4 ga_216 (by decide)) ?_
                have h := Option.some.inj h
                subst h
                exact gret (gr (s.1 216 4)) es
              · rw [if_neg c40] at h
                refine gb_f (fun q => c40 ((gc_eq e1 kg_6 z46 (by decide)).mp q)) ?_
                by_cases c41 : x1 = 7
                · rw [if_pos c41] at h
                  refine gb_t ((gc_eq e1 kg_7 z46 (by decide)).mpr c41) ?_
                  refine gb_bind (gl_ld es kg_2 ga_216 (by decide)) ?_
                  have h := Option.some.inj h
                  subst h
                  exact gret (gr (s.1 216 2)) es
                · rw [if_neg c41] at h
                  refine gb_f (fun q => c41 ((gc_eq e1 kg_7 z46 (by decide)).mp q)) ?_
                  by_cases c42 : x1 = 8
                  · rw [if_pos c42] at h
                    refine gb_t ((gc_eq e1 kg_8 z46 (by decide)).mpr c42) ?_
                    have h := Option.some.inj h
                    subst h
                    exact gret (gf1 es 215 2) es
                  · rw [if_neg c42] at h
                    refine gb_f (fun q => c42 ((gc_eq e1 kg_8 z46 (by decide)).mp q)) ?_
                    by_cases c43 : x1 = 9
                    · rw [if_pos c43] at h
                      refine gb_t ((gc_eq e1 kg_9 z46 (by decide)).mpr c43) ?_
                      have h := Option.some.inj h
                      subst h
                      exact gret (gf1 es 215 4) es
                    · rw [if_neg c43] at h
                      refine gb_f (fun q => c43 ((gc_eq e1 kg_9 z46 (by decide)).mp q)) ?_
                      by_cases c44 : x1 = 10
                      · rw [if_pos c44] at h
                        refine gb_t ((gc_eq e1 kg_10 z46 (by decide)).mpr c44) ?_
                        obtain ⟨q50, w49, h⟩ := fx_bd h
                        refine gb_bind (gf_224 es w49) ?_
                        have h := Option.some.inj h
                        subst h
                        exact gret (gr q50.1) (rfl : _ = gx q50.2)
                      · rw [if_neg c44] at h
                        refine gb_f (fun q => c44 ((gc_eq e1 kg_10 z46 (by decide)).mp q)) ?_
                        by_cases c45 : x1 = 11
                        · rw [if_pos c45] at h
                          refine gb_t ((gc_eq e1 kg_11 z46 (by decide)).mpr c45) ?_
                          obtain ⟨q48, w47, h⟩ := fx_bd h
                          refine gb_bind (gf_225 es w47) ?_
                          have h := Option.some.inj h
                          subst h
                          exact gret (gr q48.1) (rfl : _ = gx q48.2)
                        · rw [if_neg c45] at h
                          refine gb_f (fun q => c45 ((gc_eq e1 kg_11 z46 (by decide)).mp q)) ?_
                          have h := Option.some.inj h
                          subst h
                          exact gret kg_m1 es
