/-! ZoneSharesModel.movedAll()I -/
def gm_224_38 (x1 : Int) (s : gx_S) : Option (Int × gx_S) :=
  some (x1, s)
theorem gf_224_38 (x1 : Int) (yx1 : Int32) (e1 : yx1 = Int32.ofInt x1) (s : gx_S) (σ : fx_S) (es : σ = gx s) (q : Int × gx_S) (h : gm_224_38 x1 s = some q) : fm_224_38 yx1 σ = some (Int32.ofInt q.1, gx q.2) := by
  unfold gm_224_38 at h
  unfold fm_224_38
  have h := Option.some.inj h
  subst h
  exact gret e1 es
def gm_224_4 : Nat → Int → Int → gx_S → Option (Int × gx_S)
  | 0, _, _, _ => none
  | n + 1, x1, x2, s =>
    if (-2147483648 ≤ x2 ∧ x2 ≤ 2147483647) then (
    if 3 ≤ x2 then (
      gm_224_38 x1 s) else (
      (gm_150 s).bind fun q4 =>
      if (gb q4.1) = 0 then (
        gm_224_38 x1 q4.2) else (
        (gm_181 x2 q4.2).bind fun q7 =>
        (gm_173 q7).bind fun q9 =>
        (gm_184 q9).bind fun q11 =>
        gm_224_4 n (x1 + q11.1) (x2 + 1) q11.2))) else none
theorem gf_224_4 : ∀ (n : Nat) (x1 : Int) (yx1 : Int32) (e1 : yx1 = Int32.ofInt x1) (x2 : Int) (yx2 : Int32) (e2 : yx2 = Int32.ofInt x2) (s : gx_S) (σ : fx_S) (es : σ = gx s) (q : Int × gx_S), gm_224_4 n x1 x2 s = some q → fm_224_4 n yx1 yx2 σ = some (Int32.ofInt q.1, gx q.2) := by
  intro n
  induction n with
  | zero =>
    intro x1 yx1 e1 x2 yx2 e2 s σ es q  h
    rw [gm_224_4] at h
    exact fx_no h
  | succ n ih =>
    intro x1 yx1 e1 x2 yx2 e2 s σ es q  h
    rw [gm_224_4] at h
    rw [fm_224_4]
    obtain ⟨z1, h⟩ := fx_gd h
    by_cases c2 : 3 ≤ x2
    · rw [if_pos c2] at h
      refine gb_t ((gc_le kg_3 e2 (by decide) z1).mpr c2) ?_
      exact gf_224_38 _ _ e1 _ _ es _ h
    · rw [if_neg c2] at h
      refine gb_f (fun q => c2 ((gc_le kg_3 e2 (by decide) z1).mp q)) ?_
      obtain ⟨q4, e3, h⟩ := fx_bd h
      refine gb_bind (gf_150 es e3) ?_
      by_cases c5 : (gb q4.1) = 0
      · rw [if_pos c5] at h
        refine gb_t ((gc_eq (gb_b q4.1) kg_0 (gb_r _) (by decide)).mpr c5) ?_
        exact gf_224_38 _ _ e1 _ _ (rfl : _ = gx q4.2) _ h
      · rw [if_neg c5] at h
        refine gb_f (fun q => c5 ((gc_eq (gb_b q4.1) kg_0 (gb_r _) (by decide)).mp q)) ?_
        obtain ⟨q7, e6, h⟩ := fx_bd h
        refine gb_bind (gf_181 e2 (rfl : _ = gx q4.2) e6) ?_
        obtain ⟨q9, e8, h⟩ := fx_bd h
        refine gb_bind (gf_173 (rfl : _ = gx q7) e8) ?_
        obtain ⟨q11, e10, h⟩ := fx_bd h
        refine gb_bind (gf_184 (rfl : _ = gx q9) e10) ?_
        exact ih _ _ (ga_add e1 (gr q11.1)) _ _ (ga_add e2 kg_1) _ _ (rfl : _ = gx q11.2) _ h
def gm_224 (s : gx_S) : Option (Int × gx_S) :=
  gm_224_4 100000 0 0 s
theorem gf_224 {s : gx_S} {σ : fx_S} (es : σ = gx s) {q : Int × gx_S} (h : gm_224 s = some q) : fm_224 σ = some (Int32.ofInt q.1, gx q.2) := by
  unfold gm_224 at h
  unfold fm_224
  exact gf_224_4 100000 _ _ kg_0 _ _ kg_0 _ _ es _ h

/-! ZoneSharesModel.count(I)I -/
def gm_226 (x1 : Int) (s : gx_S) : Option (Int × gx_S) :=
  if (-2147483648 ≤ x1 ∧ x1 ≤ 2147483647) then (
  if x1 = 0 then (
    (gm_151 s).bind fun q66 =>
    some (q66.1, q66.2)) else (
    if x1 = 1 then (
      some ((s.1 216 0), s)) else (
      if x1 = 2 then (
        (gm_154 0 8 s).bind fun q62 =>
        some (q62.1, q62.2)) else (
        if x1 = 3 then (
          (gm_154 1 8 s).bind fun q60 =>
          some (q60.1, q60.2)) else (
          if x1 = 4 then (
            (gm_154 2 4 s).bind fun q58 =>
            some (q58.1, q58.2)) else (
            if x1 = 5 then (
              some ((s.1 216 3), s)) else (
              if x1 = 6 then (
                some ((s.1 216 4), s)) else (
                if x1 = 7 then (
                  some ((s.1 216 2), s)) else (
                  if x1 = 8 then (
                    some ((s.1 215 2), s)) else (
                    if x1 = 9 then (
                      some ((s.1 215 4), s)) else (
                      if x1 = 10 then (
                        (gm_224 s).bind fun q50 =>
                        some (q50.1, q50.2)) else (
                        if x1 = 11 then (
                          (gm_225 s).bind fun q48 =>
                          some (q48.1, q48.2)) else (
                          some ((-1), s)))))))))))))) else none
theorem gf_226 {x1 : Int} {yx1 : Int32} (e1 : yx1 = Int32.ofInt x1) {s : gx_S} {σ : fx_S} (es : σ = gx s) {q : Int × gx_S} (h : gm_226 x1 s = some q) : fm_226 yx1 σ = some (Int32.ofInt q.1, gx q.2) := by
  unfold gm_226 at h
  unfold fm_226
  obtain ⟨z46, h⟩ := fx_gd h
  by_cases c34 : x1 = 0
  · rw [if_pos c34] at h
    refine gb_t ((gc_eq e1 kg_0 z46 (by decide)).mpr c34) ?_
    obtain ⟨q66, e65, h⟩ := fx_bd h
    refine gb_bind (gf_151 es e65) ?_
    have h := Option.some.inj h
    subst h
    exact gret (gr q66.1) (rfl : _ = gx q66.2)
  · rw [if_neg c34] at h
    refine gb_f (fun q => c34 ((gc_eq e1 kg_0 z46 (by decide)).mp q)) ?_
    by_cases c35 : x1 = 1
    · rw [if_pos c35] at h
      refine gb_t ((gc_eq e1 kg_1 z46 (by decide)).mpr c35) ?_
      refine gb_bind (gl_ld es kg_0 ga_216 (by decide)) ?_
      have h := Option.some.inj h
      subst h
      exact gret (gr (s.1 216 0)) es
    · rw [if_neg c35] at h
      refine gb_f (fun q => c35 ((gc_eq e1 kg_1 z46 (by decide)).mp q)) ?_
      by_cases c36 : x1 = 2
      · rw [if_pos c36] at h
        refine gb_t ((gc_eq e1 kg_2 z46 (by decide)).mpr c36) ?_
        obtain ⟨q62, e61, h⟩ := fx_bd h
        refine gb_bind (gf_154 kg_0 kg_8 es e61) ?_
        have h := Option.some.inj h
        subst h
        exact gret (gr q62.1) (rfl : _ = gx q62.2)
      · rw [if_neg c36] at h
        refine gb_f (fun q => c36 ((gc_eq e1 kg_2 z46 (by decide)).mp q)) ?_
        by_cases c37 : x1 = 3
        · rw [if_pos c37] at h
          refine gb_t ((gc_eq e1 kg_3 z46 (by decide)).mpr c37) ?_
          obtain ⟨q60, e59, h⟩ := fx_bd h
          refine gb_bind (gf_154 kg_1 kg_8 es e59) ?_
          have h := Option.some.inj h
          subst h
          exact gret (gr q60.1) (rfl : _ = gx q60.2)
        · rw [if_neg c37] at h
          refine gb_f (fun q => c37 ((gc_eq e1 kg_3 z46 (by decide)).mp q)) ?_
          by_cases c38 : x1 = 4
          · rw [if_pos c38] at h
            refine gb_t ((gc_eq e1 kg_4 z46 (by decide)).mpr c38) ?_
            obtain ⟨q58, e57, h⟩ := fx_bd h
            refine gb_bind (gf_154 kg_2 kg_4 es e57) ?_
            have h := Option.some.inj h
            subst h
            exact gret (gr q58.1) (rfl : _ = gx q58.2)
          · rw [if_neg c38] at h
            refine gb_f (fun q => c38 ((gc_eq e1 kg_4 z46 (by decide)).mp q)) ?_
            by_cases c39 : x1 = 5
            · rw [if_pos c39] at h
              refine gb_t ((gc_eq e1 kg_5 z46 (by decide)).mpr c39) ?_
              refine gb_bind (gl_ld es kg_3 ga_216 (by decide)) ?_
              have h := Option.some.inj h
              subst h
              exact gret (gr (s.1 216 3)) es
            · rw [if_neg c39] at h
              refine gb_f (fun q => c39 ((gc_eq e1 kg_5 z46 (by decide)).mp q)) ?_
              by_cases c40 : x1 = 6
              · rw [if_pos c40] at h
                refine gb_t ((gc_eq e1 kg_6 z46 (by decide)).mpr c40) ?_
                refine gb_bind (gl_ld es kg_4 ga_216 (by decide)) ?_
                have h := Option.some.inj h
                subst h
                exact gret (gr (s.1 216 4)) es
              · rw [if_neg c40] at h
                refine gb_f (fun q => c40 ((gc_eq e1 kg_6 z46 (by decide)).mp q)) ?_
                by_cases c41 : x1 = 7
                · rw [if_pos c41] at h
                  refine gb_t ((gc_eq e1 kg_7 z46 (by decide)).mpr c41) ?_
                  refine gb_bind (gl_ld es kg_2 ga_216 (by decide)) ?_
                  have h := Option.some.inj h
                  subst h
                  exact gret (gr (s.1 216 2)) es
                · rw [if_neg c41] at h
                  refine gb_f (fun q => c41 ((gc_eq e1 kg_7 z46 (by decide)).mp q)) ?_
                  by_cases c42 : x1 = 8
                  · rw [if_pos c42] at h
                    refine gb_t ((gc_eq e1 kg_8 z46 (by decide)).mpr c42) ?_
                    have h := Option.some.inj h
                    subst h
                    exact gret (gf1 es 215 2) es
                  · rw [if_neg c42] at h
                    refine gb_f (fun q => c42 ((gc_eq e1 kg_8 z46 (by decide)).mp q)) ?_
                    by_cases c43 : x1 = 9
                    · rw [if_pos c43] at h
                      refine gb_t ((gc_eq e1 kg_9 z46 (by decide)).mpr c43) ?_
                      have h := Option.some.inj h
                      subst h
                      exact gret (gf1 es 215 4) es
                    · rw [if_neg c43] at h
                      refine gb_f (fun q => c43 ((gc_eq e1 kg_9 z46 (by decide)).mp q)) ?_
                      by_cases c44 : x1 = 10
                      · rw [if_pos c44] at h
                        refine gb_t ((gc_eq e1 kg_10 z46 (by decide)).mpr c44) ?_
                        obtain ⟨q50, e49, h⟩ := fx_bd h
                        refine gb_bind (gf_224 es e49) ?_
                        have h := Option.some.inj h
                        subst h
                        exact gret (gr q50.1) (rfl : _ = gx q50.2)
                      · rw [if_neg c44] at h
                        refine gb_f (fun q => c44 ((gc_eq e1 kg_10 z46 (by decide)).mp q)) ?_
                        by_cases c45 : x1 = 11
                        · rw [if_pos c45] at h
                          refine gb_t ((gc_eq e1 kg_11 z46 (by decide)).mpr c45) ?_
                          obtain ⟨q48, e47, h⟩ := fx_bd h
                          refine gb_bind (gf_225 es e47) ?_
                          have h := Option.some.inj h
                          subst h
                          exact gret (gr q48.1) (rfl : _ = gx q48.2)
                        · rw [if_neg c45] at h
                          refine gb_f (fun q => c45 ((gc_eq e1 kg_11 z46 (by decide)).mp q)) ?_
                          have h := Option.some.inj h
                          subst h
                          exact gret kg_m1 es
