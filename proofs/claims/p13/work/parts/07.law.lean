/-! the law -/
theorem mx_236 : iv_mx 236 = 4 := by decide +kernel
theorem rt_236 : iv_rt 236 = some .boolean := by decide +kernel
def fm_236_1121 (L : Nat) (xs : Nat → Int32) (k_18 : Int32 → fx_S → Option (Bool × fx_S)) (x3 : Int32) (σ : fx_S) : Option (Bool × fx_S) :=
  k_18 (x3 + (6 : Int32)) σ
theorem fe_236_1121 {d : Nat} (hd : 33 ≤ d) {L : Nat} {xs : Nat → Int32} {k_18 : Int32 → fx_S → Option (Bool × fx_S)} (hk_18 : ∀ (x3 : Int32) (σ : fx_S) (q : Bool × fx_S), k_18 x3 σ = some q → fx_E (some (L, xs)) 236 d 18 [some (.retAddr 0), some (.ref 0), some (.ref 215), some (.int x3)] [] σ (some (.int (fx_b q.1))) q.2) (x3 : Int32) (σ : fx_S) (q : Bool × fx_S) (h : fm_236_1121 L xs k_18  x3 σ = some q) : fx_E (some (L, xs)) 236 d 1121 [some (.retAddr 0), some (.ref 0), some (.ref 215), some (.int x3)] [] σ (some (.int (fx_b q.1))) q.2 := by
  unfold fm_236_1121 at h
  refine fs_iinc (k := 3) (n := 6) (p := 1124) (M := 4) (al' := [some (.retAddr 0), some (.ref 0), some (.ref 215), some (.int (x3 + (6 : Int32)))]) (by decide +kernel) rfl kc_6 mx_236 rfl rfl rfl ?_
  refine fs_goto (off := -1106) (p := 18) (by decide +kernel) (by decide +kernel) ?_
  exact hk_18 _ _ _ h
def fm_236_18 (L : Nat) (xs : Nat → Int32) : Nat → Int32 → fx_S → Option (Bool × fx_S)
  | 0, _, _ => none
  | n + 1, x3, σ =>
    if ((Int32.ofNat L) - (6 : Int32)) < x3 then (
      some (true, σ)) else (
      (fx_lds L xs x3).bind fun v4 =>
      if (v4 &&& (31 : Int32)) = (0 : Int32) then (
        (fx_lds L xs (x3 + (1 : Int32))).bind fun v416 =>
        (fx_lds L xs (x3 + (2 : Int32))).bind fun v419 =>
        (fx_lds L xs (x3 + (3 : Int32))).bind fun v422 =>
        (fx_lds L xs (x3 + (4 : Int32))).bind fun v425 =>
        (fx_lds L xs (x3 + (5 : Int32))).bind fun v428 =>
        (fm_85 v416 v419 v422 v425 v428 σ).bind fun q432 =>
        (fx_lds L xs (x3 + (1 : Int32))).bind fun v433 =>
        (fx_lds L xs (x3 + (2 : Int32))).bind fun v435 =>
        (fx_lds L xs (x3 + (3 : Int32))).bind fun v437 =>
        (fx_lds L xs (x3 + (4 : Int32))).bind fun v439 =>
        (fx_lds L xs (x3 + (5 : Int32))).bind fun v441 =>
        (fm_134 v433 v435 v437 v439 v441 q432.2).bind fun q444 =>
        fm_236_1121 L xs (fm_236_18 L xs n) x3 q444.2) else (
        if (v4 &&& (31 : Int32)) = (1 : Int32) then (
          (fx_lds L xs (x3 + (1 : Int32))).bind fun v407 =>
          (fm_86 v407 σ).bind fun q411 =>
          (fx_lds L xs (x3 + (1 : Int32))).bind fun v412 =>
          (fm_136 v412 q411.2).bind fun q415 =>
          fm_236_1121 L xs (fm_236_18 L xs n) x3 q415.2) else (
          if (v4 &&& (31 : Int32)) = (2 : Int32) then (
            (fx_lds L xs (x3 + (1 : Int32))).bind fun v398 =>
            (fm_87 v398 σ).bind fun q402 =>
            (fx_lds L xs (x3 + (1 : Int32))).bind fun v403 =>
            (fm_145 v403 q402.2).bind fun q406 =>
            fm_236_1121 L xs (fm_236_18 L xs n) x3 q406.2) else (
            if (v4 &&& (31 : Int32)) = (3 : Int32) then (
              (fx_lds L xs (x3 + (1 : Int32))).bind fun v389 =>
              (fm_88 v389 σ).bind fun q393 =>
              (fx_lds L xs (x3 + (1 : Int32))).bind fun v394 =>
              (fm_149 v394 q393.2).bind fun q397 =>
              fm_236_1121 L xs (fm_236_18 L xs n) x3 q397.2) else (
              if (v4 &&& (31 : Int32)) = (4 : Int32) then (
                (fx_lds L xs (x3 + (1 : Int32))).bind fun v370 =>
                (fx_lds L xs (x3 + (2 : Int32))).bind fun v373 =>
                (fx_lds L xs (x3 + (3 : Int32))).bind fun v376 =>
                (fm_89 v370 v373 v376 σ).bind fun q380 =>
                (fx_lds L xs (x3 + (1 : Int32))).bind fun v381 =>
                (fx_lds L xs (x3 + (2 : Int32))).bind fun v383 =>
                (fx_lds L xs (x3 + (3 : Int32))).bind fun v385 =>
                (fm_214 v381 v383 v385 q380.2).bind fun q388 =>
                fm_236_1121 L xs (fm_236_18 L xs n) x3 q388.2) else (
                if (v4 &&& (31 : Int32)) = (5 : Int32) then (
                  (fx_lds L xs (x3 + (1 : Int32))).bind fun v356 =>
                  (fx_lds L xs (x3 + (2 : Int32))).bind fun v359 =>
                  (fm_90 v356 v359 σ).bind fun q363 =>
                  (fx_lds L xs (x3 + (1 : Int32))).bind fun v364 =>
                  (fx_lds L xs (x3 + (2 : Int32))).bind fun v366 =>
                  (fm_215 v364 v366 q363.2).bind fun q369 =>
                  fm_236_1121 L xs (fm_236_18 L xs n) x3 q369.2) else (
                  if (v4 &&& (31 : Int32)) = (6 : Int32) then (
                    (fx_lds L xs (x3 + (1 : Int32))).bind fun v342 =>
                    (fx_lds L xs (x3 + (2 : Int32))).bind fun v345 =>
                    (fm_91 v342 v345 σ).bind fun q349 =>
                    (fx_lds L xs (x3 + (1 : Int32))).bind fun v350 =>
                    (fx_lds L xs (x3 + (2 : Int32))).bind fun v352 =>
                    (fm_216 v350 v352 q349.2).bind fun q355 =>
                    fm_236_1121 L xs (fm_236_18 L xs n) x3 q355.2) else (
                    if (v4 &&& (31 : Int32)) = (7 : Int32) then (
                      (fx_lds L xs (x3 + (1 : Int32))).bind fun v333 =>
                      (fm_92 v333 σ).bind fun q337 =>
                      (fx_lds L xs (x3 + (1 : Int32))).bind fun v338 =>
                      (fm_212 v338 q337.2).bind fun q341 =>
                      fm_236_1121 L xs (fm_236_18 L xs n) x3 q341.2) else (
                      if (v4 &&& (31 : Int32)) = (8 : Int32) then (
                        (fm_93 σ).bind fun q330 =>
                        (fm_217 q330.2).bind fun q332 =>
                        fm_236_1121 L xs (fm_236_18 L xs n) x3 q332.2) else (
                        if (v4 &&& (31 : Int32)) = (9 : Int32) then (
                          (fm_94 σ).bind fun q326 =>
                          (fm_133 q326.2).bind fun q328 =>
                          fm_236_1121 L xs (fm_236_18 L xs n) x3 q328.2) else (
                          if (v4 &&& (31 : Int32)) = (10 : Int32) then (
                            (fx_lds L xs (x3 + (1 : Int32))).bind fun v306 =>
                            (fx_lds L xs (x3 + (2 : Int32))).bind fun v309 =>
                            (fx_lds L xs (x3 + (3 : Int32))).bind fun v312 =>
                            (fm_95 v306 v309 v312 σ).bind fun q316 =>
                            (fx_lds L xs (x3 + (1 : Int32))).bind fun v317 =>
                            (fx_lds L xs (x3 + (2 : Int32))).bind fun v319 =>
                            (fx_lds L xs (x3 + (3 : Int32))).bind fun v321 =>
                            (fm_218 v317 v319 v321 q316.2).bind fun q324 =>
                            fm_236_1121 L xs (fm_236_18 L xs n) x3 q324.2) else (
                            if (v4 &&& (31 : Int32)) = (11 : Int32) then (
                              (fx_lds L xs (x3 + (1 : Int32))).bind fun v290 =>
                              (fx_lds L xs (x3 + (2 : Int32))).bind fun v293 =>
                              (fm_96 v290 v293 σ).bind fun q297 =>
                              (fx_lds L xs (x3 + (1 : Int32))).bind fun v298 =>
                              (fx_lds L xs (x3 + (2 : Int32))).bind fun v300 =>
                              (fm_220 v298 v300 q297.2).bind fun q303 =>
                              if q297.1 = q303.1 then (
                                fm_236_1121 L xs (fm_236_18 L xs n) x3 q303.2) else (
                                some (false, q303.2))) else (
                              if (v4 &&& (31 : Int32)) = (12 : Int32) then (
                                (fx_lds L xs (x3 + (1 : Int32))).bind fun v276 =>
                                (fx_lds L xs (x3 + (2 : Int32))).bind fun v279 =>
                                (fm_97 v276 v279 σ).bind fun q283 =>
                                (fx_lds L xs (x3 + (1 : Int32))).bind fun v284 =>
                                (fx_lds L xs (x3 + (2 : Int32))).bind fun v286 =>
                                (fm_179 v284 v286 q283.2).bind fun q289 =>
                                fm_236_1121 L xs (fm_236_18 L xs n) x3 q289.2) else (
                                if (v4 &&& (31 : Int32)) = (13 : Int32) then (
                                  (fx_lds L xs (x3 + (1 : Int32))).bind fun v252 =>
                                  (fx_lds L xs (x3 + (2 : Int32))).bind fun v255 =>
                                  (fx_lds L xs (x3 + (3 : Int32))).bind fun v258 =>
                                  (fx_lds L xs (x3 + (4 : Int32))).bind fun v261 =>
                                  (fm_98 v252 v255 v258 v261 σ).bind fun q265 =>
                                  (fx_lds L xs (x3 + (1 : Int32))).bind fun v266 =>
                                  (fx_lds L xs (x3 + (2 : Int32))).bind fun v268 =>
                                  (fx_lds L xs (x3 + (3 : Int32))).bind fun v270 =>
                                  (fx_lds L xs (x3 + (4 : Int32))).bind fun v272 =>
                                  (fm_195 v266 v268 v270 v272 q265.2).bind fun q275 =>
                                  fm_236_1121 L xs (fm_236_18 L xs n) x3 q275.2) else (
                                  if (v4 &&& (31 : Int32)) = (14 : Int32) then (
                                    (fx_lds L xs (x3 + (1 : Int32))).bind fun v233 =>
                                    (fx_lds L xs (x3 + (2 : Int32))).bind fun v236 =>
                                    (fx_lds L xs (x3 + (3 : Int32))).bind fun v239 =>
                                    (fm_99 v233 v236 v239 σ).bind fun q243 =>
                                    (fx_lds L xs (x3 + (1 : Int32))).bind fun v244 =>
                                    (fx_lds L xs (x3 + (2 : Int32))).bind fun v246 =>
                                    (fx_lds L xs (x3 + (3 : Int32))).bind fun v248 =>
                                    (fm_185 v244 v246 v248 q243.2).bind fun q251 =>
                                    fm_236_1121 L xs (fm_236_18 L xs n) x3 q251.2) else (
                                    if (v4 &&& (31 : Int32)) = (15 : Int32) then (
                                      (fx_lds L xs (x3 + (1 : Int32))).bind fun v214 =>
                                      (fx_lds L xs (x3 + (2 : Int32))).bind fun v217 =>
                                      (fx_lds L xs (x3 + (3 : Int32))).bind fun v220 =>
                                      (fm_100 v214 v217 v220 σ).bind fun q224 =>
                                      (fx_lds L xs (x3 + (1 : Int32))).bind fun v225 =>
                                      (fx_lds L xs (x3 + (2 : Int32))).bind fun v227 =>
                                      (fx_lds L xs (x3 + (3 : Int32))).bind fun v229 =>
                                      (fm_196 v225 v227 v229 q224.2).bind fun q232 =>
                                      fm_236_1121 L xs (fm_236_18 L xs n) x3 q232.2) else (
                                      if (v4 &&& (31 : Int32)) = (16 : Int32) then (
                                        (fx_lds L xs (x3 + (1 : Int32))).bind fun v195 =>
                                        (fx_lds L xs (x3 + (2 : Int32))).bind fun v198 =>
                                        (fx_lds L xs (x3 + (3 : Int32))).bind fun v201 =>
                                        (fm_101 v195 v198 v201 σ).bind fun q205 =>
                                        (fx_lds L xs (x3 + (1 : Int32))).bind fun v206 =>
                                        (fx_lds L xs (x3 + (2 : Int32))).bind fun v208 =>
                                        (fx_lds L xs (x3 + (3 : Int32))).bind fun v210 =>
                                        (fm_188 v206 v208 v210 q205.2).bind fun q213 =>
                                        fm_236_1121 L xs (fm_236_18 L xs n) x3 q213.2) else (
                                        if (v4 &&& (31 : Int32)) = (17 : Int32) then (
                                          (fx_lds L xs (x3 + (1 : Int32))).bind fun v181 =>
                                          (fx_lds L xs (x3 + (2 : Int32))).bind fun v184 =>
                                          (fm_102 v181 v184 σ).bind fun q188 =>
                                          (fx_lds L xs (x3 + (1 : Int32))).bind fun v189 =>
                                          (fx_lds L xs (x3 + (2 : Int32))).bind fun v191 =>
                                          (fm_210 v189 v191 q188.2).bind fun q194 =>
                                          fm_236_1121 L xs (fm_236_18 L xs n) x3 q194.2) else (
                                          if (v4 &&& (31 : Int32)) = (18 : Int32) then (
                                            (fx_lds L xs (x3 + (1 : Int32))).bind fun v167 =>
                                            (fx_lds L xs (x3 + (2 : Int32))).bind fun v170 =>
                                            (fm_103 v167 v170 σ).bind fun q174 =>
                                            (fx_lds L xs (x3 + (1 : Int32))).bind fun v175 =>
                                            (fx_lds L xs (x3 + (2 : Int32))).bind fun v177 =>
                                            (fm_189 v175 v177 q174.2).bind fun q180 =>
                                            fm_236_1121 L xs (fm_236_18 L xs n) x3 q180.2) else (
                                            if (v4 &&& (31 : Int32)) = (19 : Int32) then (
                                              (fx_lds L xs (x3 + (1 : Int32))).bind fun v153 =>
                                              (fx_lds L xs (x3 + (2 : Int32))).bind fun v156 =>
                                              (fm_104 v153 v156 σ).bind fun q160 =>
                                              (fx_lds L xs (x3 + (1 : Int32))).bind fun v161 =>
                                              (fx_lds L xs (x3 + (2 : Int32))).bind fun v163 =>
                                              (fm_192 v161 v163 q160.2).bind fun q166 =>
                                              fm_236_1121 L xs (fm_236_18 L xs n) x3 q166.2) else (
                                              if (v4 &&& (31 : Int32)) = (20 : Int32) then (
                                                (fx_lds L xs (x3 + (1 : Int32))).bind fun v144 =>
                                                (fm_105 v144 σ).bind fun q148 =>
                                                (fx_lds L xs (x3 + (1 : Int32))).bind fun v149 =>
                                                (fm_193 v149 q148.2).bind fun q152 =>
                                                fm_236_1121 L xs (fm_236_18 L xs n) x3 q152.2) else (
                                                if (v4 &&& (31 : Int32)) = (21 : Int32) then (
                                                  (fx_lds L xs (x3 + (1 : Int32))).bind fun v120 =>
                                                  (fx_lds L xs (x3 + (2 : Int32))).bind fun v123 =>
                                                  (fx_lds L xs (x3 + (3 : Int32))).bind fun v126 =>
                                                  (fx_lds L xs (x3 + (4 : Int32))).bind fun v129 =>
                                                  (fm_106 v120 v123 v126 v129 σ).bind fun q133 =>
                                                  (fx_lds L xs (x3 + (1 : Int32))).bind fun v134 =>
                                                  (fx_lds L xs (x3 + (2 : Int32))).bind fun v136 =>
                                                  (fx_lds L xs (x3 + (3 : Int32))).bind fun v138 =>
                                                  (fx_lds L xs (x3 + (4 : Int32))).bind fun v140 =>
                                                  (fm_199 v134 v136 v138 v140 q133.2).bind fun q143 =>
                                                  fm_236_1121 L xs (fm_236_18 L xs n) x3 q143.2) else (
                                                  if (v4 &&& (31 : Int32)) = (22 : Int32) then (
                                                    (fx_lds L xs (x3 + (1 : Int32))).bind fun v106 =>
                                                    (fx_lds L xs (x3 + (2 : Int32))).bind fun v109 =>
                                                    (fm_107 v106 v109 σ).bind fun q113 =>
                                                    (fx_lds L xs (x3 + (1 : Int32))).bind fun v114 =>
                                                    (fx_lds L xs (x3 + (2 : Int32))).bind fun v116 =>
                                                    (fm_201 v114 v116 q113.2).bind fun q119 =>
                                                    fm_236_1121 L xs (fm_236_18 L xs n) x3 q119.2) else (
                                                    if (v4 &&& (31 : Int32)) = (23 : Int32) then (
                                                      (fx_lds L xs (x3 + (1 : Int32))).bind fun v87 =>
                                                      (fx_lds L xs (x3 + (2 : Int32))).bind fun v90 =>
                                                      (fx_lds L xs (x3 + (3 : Int32))).bind fun v93 =>
                                                      (fm_108 v87 v90 v93 σ).bind fun q97 =>
                                                      (fx_lds L xs (x3 + (1 : Int32))).bind fun v98 =>
                                                      (fx_lds L xs (x3 + (2 : Int32))).bind fun v100 =>
                                                      (fx_lds L xs (x3 + (3 : Int32))).bind fun v102 =>
                                                      (fm_203 v98 v100 v102 q97.2).bind fun q105 =>
                                                      fm_236_1121 L xs (fm_236_18 L xs n) x3 q105.2) else (
                                                      if (v4 &&& (31 : Int32)) = (24 : Int32) then (
                                                        (fx_lds L xs (x3 + (1 : Int32))).bind fun v78 =>
                                                        (fm_109 v78 σ).bind fun q82 =>
                                                        (fx_lds L xs (x3 + (1 : Int32))).bind fun v83 =>
                                                        (fm_204 v83 q82.2).bind fun q86 =>
                                                        fm_236_1121 L xs (fm_236_18 L xs n) x3 q86.2) else (
                                                        if (v4 &&& (31 : Int32)) = (25 : Int32) then (
                                                          (fx_lds L xs (x3 + (1 : Int32))).bind fun v69 =>
                                                          (fm_110 v69 σ).bind fun q73 =>
                                                          (fx_lds L xs (x3 + (1 : Int32))).bind fun v74 =>
                                                          (fm_223 v74 q73.2).bind fun q77 =>
                                                          fm_236_1121 L xs (fm_236_18 L xs n) x3 q77.2) else (
                                                          if (v4 &&& (31 : Int32)) = (26 : Int32) then (
                                                            (fx_lds L xs (x3 + (1 : Int32))).bind fun v60 =>
                                                            (fm_111 v60 σ).bind fun q64 =>
                                                            (fx_lds L xs (x3 + (1 : Int32))).bind fun v65 =>
                                                            (fm_226 v65 q64.2).bind fun q68 =>
                                                            fm_236_1121 L xs (fm_236_18 L xs n) x3 q68.2) else (
                                                            if (v4 &&& (31 : Int32)) = (27 : Int32) then (
                                                              (fx_lds L xs (x3 + (1 : Int32))).bind fun v46 =>
                                                              (fx_lds L xs (x3 + (2 : Int32))).bind fun v49 =>
                                                              (fm_112 v46 v49 σ).bind fun q53 =>
                                                              (fx_lds L xs (x3 + (1 : Int32))).bind fun v54 =>
                                                              (fx_lds L xs (x3 + (2 : Int32))).bind fun v56 =>
                                                              (fm_227 v54 v56 q53.2).bind fun q59 =>
                                                              fm_236_1121 L xs (fm_236_18 L xs n) x3 q59.2) else (
                                                              if (v4 &&& (31 : Int32)) = (28 : Int32) then (
                                                                (fx_lds L xs (x3 + (1 : Int32))).bind fun v37 =>
                                                                (fm_113 v37 σ).bind fun q41 =>
                                                                (fx_lds L xs (x3 + (1 : Int32))).bind fun v42 =>
                                                                (fm_228 v42 q41.2).bind fun q45 =>
                                                                fm_236_1121 L xs (fm_236_18 L xs n) x3 q45.2) else (
                                                                fm_236_1121 L xs (fm_236_18 L xs n) x3 σ))))))))))))))))))))))))))))))
theorem fe_236_18 {d : Nat} (hd : 33 ≤ d) {L : Nat} {xs : Nat → Int32} : ∀ (n : Nat) (x3 : Int32) (σ : fx_S) (q : Bool × fx_S), fm_236_18 L xs n x3 σ = some q → fx_E (some (L, xs)) 236 d 18 [some (.retAddr 0), some (.ref 0), some (.ref 215), some (.int x3)] [] σ (some (.int (fx_b q.1))) q.2 := by
  intro n
  induction n with
  | zero =>
    intro x3 σ q  h
    rw [fm_236_18] at h
    exact fx_no h
  | succ n ih =>
    intro x3 σ q  h
    rw [fm_236_18] at h
    refine fs_iload_n (k := 3) (p := 19) (by decide +kernel) rfl rfl ?_
    refine fs_aload_n_a (k := 0) (p := 20) (by decide +kernel) rfl rfl ?_
    refine fs_alen_s (p := 21) (by decide +kernel) rfl ?_
    refine fs_bipush (n := 6) (p := 23) (by decide +kernel) rfl kb_6 ?_
    refine fs_isub (p := 24) (by decide +kernel) rfl ?_
    by_cases c3 : ((Int32.ofNat L) - (6 : Int32)) < x3
    · rw [if_pos c3] at h
      refine fs_icmp_gt_t (off := 1103) (t := 1127) (by decide +kernel) (by decide +kernel) c3 ?_
      refine fs_iconst (n := 1) (p := 1128) (by decide +kernel) rfl kc_1 ?_
      have h := Option.some.inj h
      subst h
      exact fs_zret (b := true) (by decide +kernel) rt_236
    · rw [if_neg c3] at h
      refine fs_icmp_gt_f (off := 1103) (t := 1127) (p := 27) (by decide +kernel) (by decide +kernel) rfl c3 ?_
      refine fs_aload_n_a (k := 0) (p := 28) (by decide +kernel) rfl rfl ?_
      refine fs_iload_n (k := 3) (p := 29) (by decide +kernel) rfl rfl ?_
      obtain ⟨v4, w5, h⟩ := fx_bd h
      refine fs_iaload_s (p := 30) (by decide +kernel) rfl w5 ?_
      refine fs_bipush (n := 31) (p := 32) (by decide +kernel) rfl kb_31 ?_
      refine fs_iand (p := 33) (by decide +kernel) rfl ?_
      by_cases c7 : (v4 &&& (31 : Int32)) = (0 : Int32)
      · rw [if_pos c7] at h
        refine fs_tsw_h (dflt := 1088) (lo := 0) (hi := 28) (offs := #[131, 194, 217, 240, 263, 306, 339, 372, 395, 408, 421, 464, 497, 530, 583, 626, 669, 712, 745, 778, 811, 834, 887, 920, 963, 986, 1009, 1032, 1065]) (x := (v4 &&& (31 : Int32))) (j := 0) (t := 164) (by decide +kernel) (by decide +kernel) (by decide) (c7.trans (by decide)) ?_
        refine fs_aload_n (k := 1) (p := 165) (by decide +kernel) rfl rfl ?_
        refine fs_aload_n_a (k := 0) (p := 166) (by decide +kernel) rfl rfl ?_
        refine fs_iload_n (k := 3) (p := 167) (by decide +kernel) rfl rfl ?_
        refine fs_iconst (n := 1) (p := 168) (by decide +kernel) rfl kc_1 ?_
        refine fs_iadd (p := 169) (by decide +kernel) rfl ?_
        obtain ⟨v416, w417, h⟩ := fx_bd h
        refine fs_iaload_s (p := 170) (by decide +kernel) rfl w417 ?_
        refine fs_aload_n_a (k := 0) (p := 171) (by decide +kernel) rfl rfl ?_
        refine fs_iload_n (k := 3) (p := 172) (by decide +kernel) rfl rfl ?_
        refine fs_iconst (n := 2) (p := 173) (by decide +kernel) rfl kc_2 ?_
        refine fs_iadd (p := 174) (by decide +kernel) rfl ?_
        obtain ⟨v419, w420, h⟩ := fx_bd h
        refine fs_iaload_s (p := 175) (by decide +kernel) rfl w420 ?_
        refine fs_aload_n_a (k := 0) (p := 176) (by decide +kernel) rfl rfl ?_
        refine fs_iload_n (k := 3) (p := 177) (by decide +kernel) rfl rfl ?_
        refine fs_iconst (n := 3) (p := 178) (by decide +kernel) rfl kc_3 ?_
        refine fs_iadd (p := 179) (by decide +kernel) rfl ?_
        obtain ⟨v422, w423, h⟩ := fx_bd h
        refine fs_iaload_s (p := 180) (by decide +kernel) rfl w423 ?_
        refine fs_aload_n_a (k := 0) (p := 181) (by decide +kernel) rfl rfl ?_
        refine fs_iload_n (k := 3) (p := 182) (by decide +kernel) rfl rfl ?_
        refine fs_iconst (n := 4) (p := 183) (by decide +kernel) rfl kc_4 ?_
        refine fs_iadd (p := 184) (by decide +kernel) rfl ?_
        obtain ⟨v425, w426, h⟩ := fx_bd h
        refine fs_iaload_s (p := 185) (by decide +kernel) rfl w426 ?_
        refine fs_aload_n_a (k := 0) (p := 186) (by decide +kernel) rfl rfl ?_
        refine fs_iload_n (k := 3) (p := 187) (by decide +kernel) rfl rfl ?_
        refine fs_iconst (n := 5) (p := 188) (by decide +kernel) rfl kc_5 ?_
        refine fs_iadd (p := 189) (by decide +kernel) rfl ?_
        obtain ⟨v428, w429, h⟩ := fx_bd h
        refine fs_iaload_s (p := 190) (by decide +kernel) rfl w429 ?_
        obtain ⟨q432, w431, h⟩ := fx_bd h
        refine fs_callV (idx := 13) (mj := 85) (ci := 9) (na := 5) (mx := 6) (p := 193) (args := [.ref 0, .int v416, .int v419, .int v422, .int v425, .int v428]) (rest := []) (al2 := [some (.ref 0), some (.int v416), some (.int v419), some (.int v422), some (.int v425), some (.int v428)]) (by decide +kernel) rfl (by decide +kernel) fo_0 rfl rfl rfl rfl rfl rfl rfl (by omega) (fun d' hd' => fe_85 (by omega) w431) rfl ?_
        refine fs_pop (p := 194) (by decide +kernel) rfl rfl ?_
        refine fs_aload_n (k := 2) (p := 195) (by decide +kernel) rfl rfl ?_
        refine fs_aload_n_a (k := 0) (p := 196) (by decide +kernel) rfl rfl ?_
        refine fs_iload_n (k := 3) (p := 197) (by decide +kernel) rfl rfl ?_
        refine fs_iconst (n := 1) (p := 198) (by decide +kernel) rfl kc_1 ?_
        refine fs_iadd (p := 199) (by decide +kernel) rfl ?_
        obtain ⟨v433, w434, h⟩ := fx_bd h
        refine fs_iaload_s (p := 200) (by decide +kernel) rfl w434 ?_
        refine fs_aload_n_a (k := 0) (p := 201) (by decide +kernel) rfl rfl ?_
        refine fs_iload_n (k := 3) (p := 202) (by decide +kernel) rfl rfl ?_
        refine fs_iconst (n := 2) (p := 203) (by decide +kernel) rfl kc_2 ?_
        refine fs_iadd (p := 204) (by decide +kernel) rfl ?_
        obtain ⟨v435, w436, h⟩ := fx_bd h
        refine fs_iaload_s (p := 205) (by decide +kernel) rfl w436 ?_
        refine fs_aload_n_a (k := 0) (p := 206) (by decide +kernel) rfl rfl ?_
        refine fs_iload_n (k := 3) (p := 207) (by decide +kernel) rfl rfl ?_
        refine fs_iconst (n := 3) (p := 208) (by decide +kernel) rfl kc_3 ?_
        refine fs_iadd (p := 209) (by decide +kernel) rfl ?_
        obtain ⟨v437, w438, h⟩ := fx_bd h
        refine fs_iaload_s (p := 210) (by decide +kernel) rfl w438 ?_
        refine fs_aload_n_a (k := 0) (p := 211) (by decide +kernel) rfl rfl ?_
        refine fs_iload_n (k := 3) (p := 212) (by decide +kernel) rfl rfl ?_
        refine fs_iconst (n := 4) (p := 213) (by decide +kernel) rfl kc_4 ?_
        refine fs_iadd (p := 214) (by decide +kernel) rfl ?_
        obtain ⟨v439, w440, h⟩ := fx_bd h
        refine fs_iaload_s (p := 215) (by decide +kernel) rfl w440 ?_
        refine fs_aload_n_a (k := 0) (p := 216) (by decide +kernel) rfl rfl ?_
        refine fs_iload_n (k := 3) (p := 217) (by decide +kernel) rfl rfl ?_
        refine fs_iconst (n := 5) (p := 218) (by decide +kernel) rfl kc_5 ?_
        refine fs_iadd (p := 219) (by decide +kernel) rfl ?_
        obtain ⟨v441, w442, h⟩ := fx_bd h
        refine fs_iaload_s (p := 220) (by decide +kernel) rfl w442 ?_
        obtain ⟨q444, w443, h⟩ := fx_bd h
        refine fs_callV (idx := 17) (mj := 134) (ci := 10) (na := 5) (mx := 6) (p := 223) (args := [.ref 215, .int v433, .int v435, .int v437, .int v439, .int v441]) (rest := []) (al2 := [some (.ref 215), some (.int v433), some (.int v435), some (.int v437), some (.int v439), some (.int v441)]) (by decide +kernel) rfl (by decide +kernel) fo_215 rfl rfl rfl rfl rfl rfl rfl (by omega) (fun d' hd' => fe_134 (by omega) w443) rfl ?_
        refine fs_pop (p := 224) (by decide +kernel) rfl rfl ?_
        refine fs_goto (off := 897) (p := 1121) (by decide +kernel) (by decide +kernel) ?_
        exact fe_236_1121 hd ih _ _ _ h
      · rw [if_neg c7] at h
        by_cases c8 : (v4 &&& (31 : Int32)) = (1 : Int32)
        · rw [if_pos c8] at h
          refine fs_tsw_h (dflt := 1088) (lo := 0) (hi := 28) (offs := #[131, 194, 217, 240, 263, 306, 339, 372, 395, 408, 421, 464, 497, 530, 583, 626, 669, 712, 745, 778, 811, 834, 887, 920, 963, 986, 1009, 1032, 1065]) (x := (v4 &&& (31 : Int32))) (j := 1) (t := 227) (by decide +kernel) (by decide +kernel) (by decide) (c8.trans (by decide)) ?_
          refine fs_aload_n (k := 1) (p := 228) (by decide +kernel) rfl rfl ?_
          refine fs_aload_n_a (k := 0) (p := 229) (by decide +kernel) rfl rfl ?_
          refine fs_iload_n (k := 3) (p := 230) (by decide +kernel) rfl rfl ?_
          refine fs_iconst (n := 1) (p := 231) (by decide +kernel) rfl kc_1 ?_
          refine fs_iadd (p := 232) (by decide +kernel) rfl ?_
          obtain ⟨v407, w408, h⟩ := fx_bd h
          refine fs_iaload_s (p := 233) (by decide +kernel) rfl w408 ?_
          obtain ⟨q411, w410, h⟩ := fx_bd h
          refine fs_callV (idx := 18) (mj := 86) (ci := 9) (na := 1) (mx := 2) (p := 236) (args := [.ref 0, .int v407]) (rest := []) (al2 := [some (.ref 0), some (.int v407)]) (by decide +kernel) rfl (by decide +kernel) fo_0 rfl rfl rfl rfl rfl rfl rfl (by omega) (fun d' hd' => fe_86 (by omega) w410) rfl ?_
          refine fs_pop (p := 237) (by decide +kernel) rfl rfl ?_
          refine fs_aload_n (k := 2) (p := 238) (by decide +kernel) rfl rfl ?_
          refine fs_aload_n_a (k := 0) (p := 239) (by decide +kernel) rfl rfl ?_
          refine fs_iload_n (k := 3) (p := 240) (by decide +kernel) rfl rfl ?_
          refine fs_iconst (n := 1) (p := 241) (by decide +kernel) rfl kc_1 ?_
          refine fs_iadd (p := 242) (by decide +kernel) rfl ?_
          obtain ⟨v412, w413, h⟩ := fx_bd h
          refine fs_iaload_s (p := 243) (by decide +kernel) rfl w413 ?_
          obtain ⟨q415, w414, h⟩ := fx_bd h
          refine fs_callV (idx := 22) (mj := 136) (ci := 10) (na := 1) (mx := 2) (p := 246) (args := [.ref 215, .int v412]) (rest := []) (al2 := [some (.ref 215), some (.int v412)]) (by decide +kernel) rfl (by decide +kernel) fo_215 rfl rfl rfl rfl rfl rfl rfl (by omega) (fun d' hd' => fe_136 (by omega) w414) rfl ?_
          refine fs_pop (p := 247) (by decide +kernel) rfl rfl ?_
          refine fs_goto (off := 874) (p := 1121) (by decide +kernel) (by decide +kernel) ?_
          exact fe_236_1121 hd ih _ _ _ h
        · rw [if_neg c8] at h
          by_cases c9 : (v4 &&& (31 : Int32)) = (2 : Int32)
          · rw [if_pos c9] at h
            refine fs_tsw_h (dflt := 1088) (lo := 0) (hi := 28) (offs := #[131, 194, 217, 240, 263, 306, 339, 372, 395, 408, 421, 464, 497, 530, 583, 626, 669, 712, 745, 778, 811, 834, 887, 920, 963, 986, 1009, 1032, 1065]) (x := (v4 &&& (31 : Int32))) (j := 2) (t := 250) (by decide +kernel) (by decide +kernel) (by decide) (c9.trans (by decide)) ?_
            refine fs_aload_n (k := 1) (p := 251) (by decide +kernel) rfl rfl ?_
            refine fs_aload_n_a (k := 0) (p := 252) (by decide +kernel) rfl rfl ?_
            refine fs_iload_n (k := 3) (p := 253) (by decide +kernel) rfl rfl ?_
            refine fs_iconst (n := 1) (p := 254) (by decide +kernel) rfl kc_1 ?_
            refine fs_iadd (p := 255) (by decide +kernel) rfl ?_
            obtain ⟨v398, w399, h⟩ := fx_bd h
            refine fs_iaload_s (p := 256) (by decide +kernel) rfl w399 ?_
            obtain ⟨q402, w401, h⟩ := fx_bd h
            refine fs_callV (idx := 23) (mj := 87) (ci := 9) (na := 1) (mx := 3) (p := 259) (args := [.ref 0, .int v398]) (rest := []) (al2 := [some (.ref 0), some (.int v398), none]) (by decide +kernel) rfl (by decide +kernel) fo_0 rfl rfl rfl rfl rfl rfl rfl (by omega) (fun d' hd' => fe_87 (by omega) w401) rfl ?_
            refine fs_pop (p := 260) (by decide +kernel) rfl rfl ?_
            refine fs_aload_n (k := 2) (p := 261) (by decide +kernel) rfl rfl ?_
            refine fs_aload_n_a (k := 0) (p := 262) (by decide +kernel) rfl rfl ?_
            refine fs_iload_n (k := 3) (p := 263) (by decide +kernel) rfl rfl ?_
            refine fs_iconst (n := 1) (p := 264) (by decide +kernel) rfl kc_1 ?_
            refine fs_iadd (p := 265) (by decide +kernel) rfl ?_
            obtain ⟨v403, w404, h⟩ := fx_bd h
            refine fs_iaload_s (p := 266) (by decide +kernel) rfl w404 ?_
            obtain ⟨q406, w405, h⟩ := fx_bd h
            refine fs_callV (idx := 26) (mj := 145) (ci := 10) (na := 1) (mx := 3) (p := 269) (args := [.ref 215, .int v403]) (rest := []) (al2 := [some (.ref 215), some (.int v403), none]) (by decide +kernel) rfl (by decide +kernel) fo_215 rfl rfl rfl rfl rfl rfl rfl (by omega) (fun d' hd' => fe_145 (by omega) w405) rfl ?_
            refine fs_pop (p := 270) (by decide +kernel) rfl rfl ?_
            refine fs_goto (off := 851) (p := 1121) (by decide +kernel) (by decide +kernel) ?_
            exact fe_236_1121 hd ih _ _ _ h
          · rw [if_neg c9] at h
            by_cases c10 : (v4 &&& (31 : Int32)) = (3 : Int32)
            · rw [if_pos c10] at h
              refine fs_tsw_h (dflt := 1088) (lo := 0) (hi := 28) (offs := #[131, 194, 217, 240, 263, 306, 339, 372, 395, 408, 421, 464, 497, 530, 583, 626, 669, 712, 745, 778, 811, 834, 887, 920, 963, 986, 1009, 1032, 1065]) (x := (v4 &&& (31 : Int32))) (j := 3) (t := 273) (by decide +kernel) (by decide +kernel) (by decide) (c10.trans (by decide)) ?_
              refine fs_aload_n (k := 1) (p := 274) (by decide +kernel) rfl rfl ?_
              refine fs_aload_n_a (k := 0) (p := 275) (by decide +kernel) rfl rfl ?_
              refine fs_iload_n (k := 3) (p := 276) (by decide +kernel) rfl rfl ?_
              refine fs_iconst (n := 1) (p := 277) (by decide +kernel) rfl kc_1 ?_
              refine fs_iadd (p := 278) (by decide +kernel) rfl ?_
              obtain ⟨v389, w390, h⟩ := fx_bd h
              refine fs_iaload_s (p := 279) (by decide +kernel) rfl w390 ?_
              obtain ⟨q393, w392, h⟩ := fx_bd h
              refine fs_callV (idx := 27) (mj := 88) (ci := 9) (na := 1) (mx := 3) (p := 282) (args := [.ref 0, .int v389]) (rest := []) (al2 := [some (.ref 0), some (.int v389), none]) (by decide +kernel) rfl (by decide +kernel) fo_0 rfl rfl rfl rfl rfl rfl rfl (by omega) (fun d' hd' => fe_88 (by omega) w392) rfl ?_
              refine fs_pop (p := 283) (by decide +kernel) rfl rfl ?_
              refine fs_aload_n (k := 2) (p := 284) (by decide +kernel) rfl rfl ?_
              refine fs_aload_n_a (k := 0) (p := 285) (by decide +kernel) rfl rfl ?_
              refine fs_iload_n (k := 3) (p := 286) (by decide +kernel) rfl rfl ?_
              refine fs_iconst (n := 1) (p := 287) (by decide +kernel) rfl kc_1 ?_
              refine fs_iadd (p := 288) (by decide +kernel) rfl ?_
              obtain ⟨v394, w395, h⟩ := fx_bd h
              refine fs_iaload_s (p := 289) (by decide +kernel) rfl w395 ?_
              obtain ⟨q397, w396, h⟩ := fx_bd h
              refine fs_callV (idx := 30) (mj := 149) (ci := 10) (na := 1) (mx := 4) (p := 292) (args := [.ref 215, .int v394]) (rest := []) (al2 := [some (.ref 215), some (.int v394), none, none]) (by decide +kernel) rfl (by decide +kernel) fo_215 rfl rfl rfl rfl rfl rfl rfl (by omega) (fun d' hd' => fe_149 (by omega) w396) rfl ?_
              refine fs_pop (p := 293) (by decide +kernel) rfl rfl ?_
              refine fs_goto (off := 828) (p := 1121) (by decide +kernel) (by decide +kernel) ?_
              exact fe_236_1121 hd ih _ _ _ h
            · rw [if_neg c10] at h
              by_cases c11 : (v4 &&& (31 : Int32)) = (4 : Int32)
              · rw [if_pos c11] at h
                refine fs_tsw_h (dflt := 1088) (lo := 0) (hi := 28) (offs := #[131, 194, 217, 240, 263, 306, 339, 372, 395, 408, 421, 464, 497, 530, 583, 626, 669, 712, 745, 778, 811, 834, 887, 920, 963, 986, 1009, 1032, 1065]) (x := (v4 &&& (31 : Int32))) (j := 4) (t := 296) (by decide +kernel) (by decide +kernel) (by decide) (c11.trans (by decide)) ?_
                refine fs_aload_n (k := 1) (p := 297) (by decide +kernel) rfl rfl ?_
                refine fs_aload_n_a (k := 0) (p := 298) (by decide +kernel) rfl rfl ?_
                refine fs_iload_n (k := 3) (p := 299) (by decide +kernel) rfl rfl ?_
                refine fs_iconst (n := 1) (p := 300) (by decide +kernel) rfl kc_1 ?_
                refine fs_iadd (p := 301) (by decide +kernel) rfl ?_
                obtain ⟨v370, w371, h⟩ := fx_bd h
                refine fs_iaload_s (p := 302) (by decide +kernel) rfl w371 ?_
                refine fs_aload_n_a (k := 0) (p := 303) (by decide +kernel) rfl rfl ?_
                refine fs_iload_n (k := 3) (p := 304) (by decide +kernel) rfl rfl ?_
                refine fs_iconst (n := 2) (p := 305) (by decide +kernel) rfl kc_2 ?_
                refine fs_iadd (p := 306) (by decide +kernel) rfl ?_
                obtain ⟨v373, w374, h⟩ := fx_bd h
                refine fs_iaload_s (p := 307) (by decide +kernel) rfl w374 ?_
                refine fs_aload_n_a (k := 0) (p := 308) (by decide +kernel) rfl rfl ?_
                refine fs_iload_n (k := 3) (p := 309) (by decide +kernel) rfl rfl ?_
                refine fs_iconst (n := 3) (p := 310) (by decide +kernel) rfl kc_3 ?_
                refine fs_iadd (p := 311) (by decide +kernel) rfl ?_
                obtain ⟨v376, w377, h⟩ := fx_bd h
                refine fs_iaload_s (p := 312) (by decide +kernel) rfl w377 ?_
                obtain ⟨q380, w379, h⟩ := fx_bd h
                refine fs_callV (idx := 31) (mj := 89) (ci := 9) (na := 3) (mx := 9) (p := 315) (args := [.ref 0, .int v370, .int v373, .int v376]) (rest := []) (al2 := [some (.ref 0), some (.int v370), some (.int v373), some (.int v376), none, none, none, none, none]) (by decide +kernel) rfl (by decide +kernel) fo_0 rfl rfl rfl rfl rfl rfl rfl (by omega) (fun d' hd' => fe_89 (by omega) w379) rfl ?_
                refine fs_pop (p := 316) (by decide +kernel) rfl rfl ?_
                refine fs_aload_n (k := 2) (p := 317) (by decide +kernel) rfl rfl ?_
                refine fs_aload_n_a (k := 0) (p := 318) (by decide +kernel) rfl rfl ?_
                refine fs_iload_n (k := 3) (p := 319) (by decide +kernel) rfl rfl ?_
                refine fs_iconst (n := 1) (p := 320) (by decide +kernel) rfl kc_1 ?_
                refine fs_iadd (p := 321) (by decide +kernel) rfl ?_
                obtain ⟨v381, w382, h⟩ := fx_bd h
                refine fs_iaload_s (p := 322) (by decide +kernel) rfl w382 ?_
                refine fs_aload_n_a (k := 0) (p := 323) (by decide +kernel) rfl rfl ?_
                refine fs_iload_n (k := 3) (p := 324) (by decide +kernel) rfl rfl ?_
                refine fs_iconst (n := 2) (p := 325) (by decide +kernel) rfl kc_2 ?_
                refine fs_iadd (p := 326) (by decide +kernel) rfl ?_
                obtain ⟨v383, w384, h⟩ := fx_bd h
                refine fs_iaload_s (p := 327) (by decide +kernel) rfl w384 ?_
                refine fs_aload_n_a (k := 0) (p := 328) (by decide +kernel) rfl rfl ?_
                refine fs_iload_n (k := 3) (p := 329) (by decide +kernel) rfl rfl ?_
                refine fs_iconst (n := 3) (p := 330) (by decide +kernel) rfl kc_3 ?_
                refine fs_iadd (p := 331) (by decide +kernel) rfl ?_
                obtain ⟨v385, w386, h⟩ := fx_bd h
                refine fs_iaload_s (p := 332) (by decide +kernel) rfl w386 ?_
                obtain ⟨q388, w387, h⟩ := fx_bd h
                refine fs_callV (idx := 35) (mj := 214) (ci := 10) (na := 3) (mx := 6) (p := 335) (args := [.ref 215, .int v381, .int v383, .int v385]) (rest := []) (al2 := [some (.ref 215), some (.int v381), some (.int v383), some (.int v385), none, none]) (by decide +kernel) rfl (by decide +kernel) fo_215 rfl rfl rfl rfl rfl rfl rfl (by omega) (fun d' hd' => fe_214 (by omega) w387) rfl ?_
                refine fs_pop (p := 336) (by decide +kernel) rfl rfl ?_
                refine fs_goto (off := 785) (p := 1121) (by decide +kernel) (by decide +kernel) ?_
                exact fe_236_1121 hd ih _ _ _ h
              · rw [if_neg c11] at h
                by_cases c12 : (v4 &&& (31 : Int32)) = (5 : Int32)
                · rw [if_pos c12] at h
                  refine fs_tsw_h (dflt := 1088) (lo := 0) (hi := 28) (offs := #[131, 194, 217, 240, 263, 306, 339, 372, 395, 408, 421, 464, 497, 530, 583, 626, 669, 712, 745, 778, 811, 834, 887, 920, 963, 986, 1009, 1032, 1065]) (x := (v4 &&& (31 : Int32))) (j := 5) (t := 339) (by decide +kernel) (by decide +kernel) (by decide) (c12.trans (by decide)) ?_
                  refine fs_aload_n (k := 1) (p := 340) (by decide +kernel) rfl rfl ?_
                  refine fs_aload_n_a (k := 0) (p := 341) (by decide +kernel) rfl rfl ?_
                  refine fs_iload_n (k := 3) (p := 342) (by decide +kernel) rfl rfl ?_
                  refine fs_iconst (n := 1) (p := 343) (by decide +kernel) rfl kc_1 ?_
                  refine fs_iadd (p := 344) (by decide +kernel) rfl ?_
                  obtain ⟨v356, w357, h⟩ := fx_bd h
                  refine fs_iaload_s (p := 345) (by decide +kernel) rfl w357 ?_
                  refine fs_aload_n_a (k := 0) (p := 346) (by decide +kernel) rfl rfl ?_
                  refine fs_iload_n (k := 3) (p := 347) (by decide +kernel) rfl rfl ?_
                  refine fs_iconst (n := 2) (p := 348) (by decide +kernel) rfl kc_2 ?_
                  refine fs_iadd (p := 349) (by decide +kernel) rfl ?_
                  obtain ⟨v359, w360, h⟩ := fx_bd h
                  refine fs_iaload_s (p := 350) (by decide +kernel) rfl w360 ?_
                  obtain ⟨q363, w362, h⟩ := fx_bd h
                  refine fs_callV (idx := 36) (mj := 90) (ci := 9) (na := 2) (mx := 4) (p := 353) (args := [.ref 0, .int v356, .int v359]) (rest := []) (al2 := [some (.ref 0), some (.int v356), some (.int v359), none]) (by decide +kernel) rfl (by decide +kernel) fo_0 rfl rfl rfl rfl rfl rfl rfl (by omega) (fun d' hd' => fe_90 (by omega) w362) rfl ?_
                  refine fs_pop (p := 354) (by decide +kernel) rfl rfl ?_
                  refine fs_aload_n (k := 2) (p := 355) (by decide +kernel) rfl rfl ?_
                  refine fs_aload_n_a (k := 0) (p := 356) (by decide +kernel) rfl rfl ?_
                  refine fs_iload_n (k := 3) (p := 357) (by decide +kernel) rfl rfl ?_
                  refine fs_iconst (n := 1) (p := 358) (by decide +kernel) rfl kc_1 ?_
                  refine fs_iadd (p := 359) (by decide +kernel) rfl ?_
                  obtain ⟨v364, w365, h⟩ := fx_bd h
                  refine fs_iaload_s (p := 360) (by decide +kernel) rfl w365 ?_
                  refine fs_aload_n_a (k := 0) (p := 361) (by decide +kernel) rfl rfl ?_
                  refine fs_iload_n (k := 3) (p := 362) (by decide +kernel) rfl rfl ?_
                  refine fs_iconst (n := 2) (p := 363) (by decide +kernel) rfl kc_2 ?_
                  refine fs_iadd (p := 364) (by decide +kernel) rfl ?_
                  obtain ⟨v366, w367, h⟩ := fx_bd h
                  refine fs_iaload_s (p := 365) (by decide +kernel) rfl w367 ?_
                  obtain ⟨q369, w368, h⟩ := fx_bd h
                  refine fs_callV (idx := 40) (mj := 215) (ci := 10) (na := 2) (mx := 4) (p := 368) (args := [.ref 215, .int v364, .int v366]) (rest := []) (al2 := [some (.ref 215), some (.int v364), some (.int v366), none]) (by decide +kernel) rfl (by decide +kernel) fo_215 rfl rfl rfl rfl rfl rfl rfl (by omega) (fun d' hd' => fe_215 (by omega) w368) rfl ?_
                  refine fs_pop (p := 369) (by decide +kernel) rfl rfl ?_
                  refine fs_goto (off := 752) (p := 1121) (by decide +kernel) (by decide +kernel) ?_
                  exact fe_236_1121 hd ih _ _ _ h
                · rw [if_neg c12] at h
                  by_cases c13 : (v4 &&& (31 : Int32)) = (6 : Int32)
                  · rw [if_pos c13] at h
                    refine fs_tsw_h (dflt := 1088) (lo := 0) (hi := 28) (offs := #[131, 194, 217, 240, 263, 306, 339, 372, 395, 408, 421, 464, 497, 530, 583, 626, 669, 712, 745, 778, 811, 834, 887, 920, 963, 986, 1009, 1032, 1065]) (x := (v4 &&& (31 : Int32))) (j := 6) (t := 372) (by decide +kernel) (by decide +kernel) (by decide) (c13.trans (by decide)) ?_
                    refine fs_aload_n (k := 1) (p := 373) (by decide +kernel) rfl rfl ?_
                    refine fs_aload_n_a (k := 0) (p := 374) (by decide +kernel) rfl rfl ?_
                    refine fs_iload_n (k := 3) (p := 375) (by decide +kernel) rfl rfl ?_
                    refine fs_iconst (n := 1) (p := 376) (by decide +kernel) rfl kc_1 ?_
                    refine fs_iadd (p := 377) (by decide +kernel) rfl ?_
                    obtain ⟨v342, w343, h⟩ := fx_bd h
                    refine fs_iaload_s (p := 378) (by decide +kernel) rfl w343 ?_
                    refine fs_aload_n_a (k := 0) (p := 379) (by decide +kernel) rfl rfl ?_
                    refine fs_iload_n (k := 3) (p := 380) (by decide +kernel) rfl rfl ?_
                    refine fs_iconst (n := 2) (p := 381) (by decide +kernel) rfl kc_2 ?_
                    refine fs_iadd (p := 382) (by decide +kernel) rfl ?_
                    obtain ⟨v345, w346, h⟩ := fx_bd h
                    refine fs_iaload_s (p := 383) (by decide +kernel) rfl w346 ?_
                    obtain ⟨q349, w348, h⟩ := fx_bd h
                    refine fs_callV (idx := 41) (mj := 91) (ci := 9) (na := 2) (mx := 4) (p := 386) (args := [.ref 0, .int v342, .int v345]) (rest := []) (al2 := [some (.ref 0), some (.int v342), some (.int v345), none]) (by decide +kernel) rfl (by decide +kernel) fo_0 rfl rfl rfl rfl rfl rfl rfl (by omega) (fun d' hd' => fe_91 (by omega) w348) rfl ?_
                    refine fs_pop (p := 387) (by decide +kernel) rfl rfl ?_
                    refine fs_aload_n (k := 2) (p := 388) (by decide +kernel) rfl rfl ?_
                    refine fs_aload_n_a (k := 0) (p := 389) (by decide +kernel) rfl rfl ?_
                    refine fs_iload_n (k := 3) (p := 390) (by decide +kernel) rfl rfl ?_
                    refine fs_iconst (n := 1) (p := 391) (by decide +kernel) rfl kc_1 ?_
                    refine fs_iadd (p := 392) (by decide +kernel) rfl ?_
                    obtain ⟨v350, w351, h⟩ := fx_bd h
                    refine fs_iaload_s (p := 393) (by decide +kernel) rfl w351 ?_
                    refine fs_aload_n_a (k := 0) (p := 394) (by decide +kernel) rfl rfl ?_
                    refine fs_iload_n (k := 3) (p := 395) (by decide +kernel) rfl rfl ?_
                    refine fs_iconst (n := 2) (p := 396) (by decide +kernel) rfl kc_2 ?_
                    refine fs_iadd (p := 397) (by decide +kernel) rfl ?_
                    obtain ⟨v352, w353, h⟩ := fx_bd h
                    refine fs_iaload_s (p := 398) (by decide +kernel) rfl w353 ?_
                    obtain ⟨q355, w354, h⟩ := fx_bd h
                    refine fs_callV (idx := 44) (mj := 216) (ci := 10) (na := 2) (mx := 4) (p := 401) (args := [.ref 215, .int v350, .int v352]) (rest := []) (al2 := [some (.ref 215), some (.int v350), some (.int v352), none]) (by decide +kernel) rfl (by decide +kernel) fo_215 rfl rfl rfl rfl rfl rfl rfl (by omega) (fun d' hd' => fe_216 (by omega) w354) rfl ?_
                    refine fs_pop (p := 402) (by decide +kernel) rfl rfl ?_
                    refine fs_goto (off := 719) (p := 1121) (by decide +kernel) (by decide +kernel) ?_
                    exact fe_236_1121 hd ih _ _ _ h
                  · rw [if_neg c13] at h
                    by_cases c14 : (v4 &&& (31 : Int32)) = (7 : Int32)
                    · rw [if_pos c14] at h
                      refine fs_tsw_h (dflt := 1088) (lo := 0) (hi := 28) (offs := #[131, 194, 217, 240, 263, 306, 339, 372, 395, 408, 421, 464, 497, 530, 583, 626, 669, 712, 745, 778, 811, 834, 887, 920, 963, 986, 1009, 1032, 1065]) (x := (v4 &&& (31 : Int32))) (j := 7) (t := 405) (by decide +kernel) (by decide +kernel) (by decide) (c14.trans (by decide)) ?_
                      refine fs_aload_n (k := 1) (p := 406) (by decide +kernel) rfl rfl ?_
                      refine fs_aload_n_a (k := 0) (p := 407) (by decide +kernel) rfl rfl ?_
                      refine fs_iload_n (k := 3) (p := 408) (by decide +kernel) rfl rfl ?_
                      refine fs_iconst (n := 1) (p := 409) (by decide +kernel) rfl kc_1 ?_
                      refine fs_iadd (p := 410) (by decide +kernel) rfl ?_
                      obtain ⟨v333, w334, h⟩ := fx_bd h
                      refine fs_iaload_s (p := 411) (by decide +kernel) rfl w334 ?_
                      obtain ⟨q337, w336, h⟩ := fx_bd h
                      refine fs_callV (idx := 45) (mj := 92) (ci := 9) (na := 1) (mx := 4) (p := 414) (args := [.ref 0, .int v333]) (rest := []) (al2 := [some (.ref 0), some (.int v333), none, none]) (by decide +kernel) rfl (by decide +kernel) fo_0 rfl rfl rfl rfl rfl rfl rfl (by omega) (fun d' hd' => fe_92 (by omega) w336) rfl ?_
                      refine fs_pop (p := 415) (by decide +kernel) rfl rfl ?_
                      refine fs_aload_n (k := 2) (p := 416) (by decide +kernel) rfl rfl ?_
                      refine fs_aload_n_a (k := 0) (p := 417) (by decide +kernel) rfl rfl ?_
                      refine fs_iload_n (k := 3) (p := 418) (by decide +kernel) rfl rfl ?_
                      refine fs_iconst (n := 1) (p := 419) (by decide +kernel) rfl kc_1 ?_
                      refine fs_iadd (p := 420) (by decide +kernel) rfl ?_
                      obtain ⟨v338, w339, h⟩ := fx_bd h
                      refine fs_iaload_s (p := 421) (by decide +kernel) rfl w339 ?_
                      obtain ⟨q341, w340, h⟩ := fx_bd h
                      refine fs_callV (idx := 48) (mj := 212) (ci := 10) (na := 1) (mx := 4) (p := 424) (args := [.ref 215, .int v338]) (rest := []) (al2 := [some (.ref 215), some (.int v338), none, none]) (by decide +kernel) rfl (by decide +kernel) fo_215 rfl rfl rfl rfl rfl rfl rfl (by omega) (fun d' hd' => fe_212 (by omega) w340) rfl ?_
                      refine fs_pop (p := 425) (by decide +kernel) rfl rfl ?_
                      refine fs_goto (off := 696) (p := 1121) (by decide +kernel) (by decide +kernel) ?_
                      exact fe_236_1121 hd ih _ _ _ h
                    · rw [if_neg c14] at h
                      by_cases c15 : (v4 &&& (31 : Int32)) = (8 : Int32)
                      · rw [if_pos c15] at h
                        refine fs_tsw_h (dflt := 1088) (lo := 0) (hi := 28) (offs := #[131, 194, 217, 240, 263, 306, 339, 372, 395, 408, 421, 464, 497, 530, 583, 626, 669, 712, 745, 778, 811, 834, 887, 920, 963, 986, 1009, 1032, 1065]) (x := (v4 &&& (31 : Int32))) (j := 8) (t := 428) (by decide +kernel) (by decide +kernel) (by decide) (c15.trans (by decide)) ?_
                        refine fs_aload_n (k := 1) (p := 429) (by decide +kernel) rfl rfl ?_
                        obtain ⟨q330, w329, h⟩ := fx_bd h
                        refine fs_callV (idx := 49) (mj := 93) (ci := 9) (na := 0) (mx := 3) (p := 432) (args := [.ref 0]) (rest := []) (al2 := [some (.ref 0), none, none]) (by decide +kernel) rfl (by decide +kernel) fo_0 rfl rfl rfl rfl rfl rfl rfl (by omega) (fun d' hd' => fe_93 (by omega) w329) rfl ?_
                        refine fs_pop (p := 433) (by decide +kernel) rfl rfl ?_
                        refine fs_aload_n (k := 2) (p := 434) (by decide +kernel) rfl rfl ?_
                        obtain ⟨q332, w331, h⟩ := fx_bd h
                        refine fs_callV (idx := 53) (mj := 217) (ci := 10) (na := 0) (mx := 4) (p := 437) (args := [.ref 215]) (rest := []) (al2 := [some (.ref 215), none, none, none]) (by decide +kernel) rfl (by decide +kernel) fo_215 rfl rfl rfl rfl rfl rfl rfl (by omega) (fun d' hd' => fe_217 (by omega) w331) rfl ?_
                        refine fs_pop (p := 438) (by decide +kernel) rfl rfl ?_
                        refine fs_goto (off := 683) (p := 1121) (by decide +kernel) (by decide +kernel) ?_
                        exact fe_236_1121 hd ih _ _ _ h
                      · rw [if_neg c15] at h
                        by_cases c16 : (v4 &&& (31 : Int32)) = (9 : Int32)
                        · rw [if_pos c16] at h
                          refine fs_tsw_h (dflt := 1088) (lo := 0) (hi := 28) (offs := #[131, 194, 217, 240, 263, 306, 339, 372, 395, 408, 421, 464, 497, 530, 583, 626, 669, 712, 745, 778, 811, 834, 887, 920, 963, 986, 1009, 1032, 1065]) (x := (v4 &&& (31 : Int32))) (j := 9) (t := 441) (by decide +kernel) (by decide +kernel) (by decide) (c16.trans (by decide)) ?_
                          refine fs_aload_n (k := 1) (p := 442) (by decide +kernel) rfl rfl ?_
                          obtain ⟨q326, w325, h⟩ := fx_bd h
                          refine fs_callV (idx := 54) (mj := 94) (ci := 9) (na := 0) (mx := 1) (p := 445) (args := [.ref 0]) (rest := []) (al2 := [some (.ref 0)]) (by decide +kernel) rfl (by decide +kernel) fo_0 rfl rfl rfl rfl rfl rfl rfl (by omega) (fun d' hd' => fe_94 (by omega) w325) rfl ?_
                          refine fs_pop (p := 446) (by decide +kernel) rfl rfl ?_
                          refine fs_aload_n (k := 2) (p := 447) (by decide +kernel) rfl rfl ?_
                          obtain ⟨q328, w327, h⟩ := fx_bd h
                          refine fs_callV (idx := 57) (mj := 133) (ci := 10) (na := 0) (mx := 2) (p := 450) (args := [.ref 215]) (rest := []) (al2 := [some (.ref 215), none]) (by decide +kernel) rfl (by decide +kernel) fo_215 rfl rfl rfl rfl rfl rfl rfl (by omega) (fun d' hd' => fe_133 (by omega) w327) rfl ?_
                          refine fs_pop (p := 451) (by decide +kernel) rfl rfl ?_
                          refine fs_goto (off := 670) (p := 1121) (by decide +kernel) (by decide +kernel) ?_
                          exact fe_236_1121 hd ih _ _ _ h
                        · rw [if_neg c16] at h
                          by_cases c17 : (v4 &&& (31 : Int32)) = (10 : Int32)
                          · rw [if_pos c17] at h
                            refine fs_tsw_h (dflt := 1088) (lo := 0) (hi := 28) (offs := #[131, 194, 217, 240, 263, 306, 339, 372, 395, 408, 421, 464, 497, 530, 583, 626, 669, 712, 745, 778, 811, 834, 887, 920, 963, 986, 1009, 1032, 1065]) (x := (v4 &&& (31 : Int32))) (j := 10) (t := 454) (by decide +kernel) (by decide +kernel) (by decide) (c17.trans (by decide)) ?_
                            refine fs_aload_n (k := 1) (p := 455) (by decide +kernel) rfl rfl ?_
                            refine fs_aload_n_a (k := 0) (p := 456) (by decide +kernel) rfl rfl ?_
                            refine fs_iload_n (k := 3) (p := 457) (by decide +kernel) rfl rfl ?_
                            refine fs_iconst (n := 1) (p := 458) (by decide +kernel) rfl kc_1 ?_
                            refine fs_iadd (p := 459) (by decide +kernel) rfl ?_
                            obtain ⟨v306, w307, h⟩ := fx_bd h
                            refine fs_iaload_s (p := 460) (by decide +kernel) rfl w307 ?_
                            refine fs_aload_n_a (k := 0) (p := 461) (by decide +kernel) rfl rfl ?_
                            refine fs_iload_n (k := 3) (p := 462) (by decide +kernel) rfl rfl ?_
                            refine fs_iconst (n := 2) (p := 463) (by decide +kernel) rfl kc_2 ?_
                            refine fs_iadd (p := 464) (by decide +kernel) rfl ?_
                            obtain ⟨v309, w310, h⟩ := fx_bd h
                            refine fs_iaload_s (p := 465) (by decide +kernel) rfl w310 ?_
                            refine fs_aload_n_a (k := 0) (p := 466) (by decide +kernel) rfl rfl ?_
                            refine fs_iload_n (k := 3) (p := 467) (by decide +kernel) rfl rfl ?_
                            refine fs_iconst (n := 3) (p := 468) (by decide +kernel) rfl kc_3 ?_
                            refine fs_iadd (p := 469) (by decide +kernel) rfl ?_
                            obtain ⟨v312, w313, h⟩ := fx_bd h
                            refine fs_iaload_s (p := 470) (by decide +kernel) rfl w313 ?_
                            obtain ⟨q316, w315, h⟩ := fx_bd h
                            refine fs_callV (idx := 58) (mj := 95) (ci := 9) (na := 3) (mx := 5) (p := 473) (args := [.ref 0, .int v306, .int v309, .int v312]) (rest := []) (al2 := [some (.ref 0), some (.int v306), some (.int v309), some (.int v312), none]) (by decide +kernel) rfl (by decide +kernel) fo_0 rfl rfl rfl rfl rfl rfl rfl (by omega) (fun d' hd' => fe_95 (by omega) w315) rfl ?_
                            refine fs_pop (p := 474) (by decide +kernel) rfl rfl ?_
                            refine fs_aload_n (k := 2) (p := 475) (by decide +kernel) rfl rfl ?_
                            refine fs_aload_n_a (k := 0) (p := 476) (by decide +kernel) rfl rfl ?_
                            refine fs_iload_n (k := 3) (p := 477) (by decide +kernel) rfl rfl ?_
                            refine fs_iconst (n := 1) (p := 478) (by decide +kernel) rfl kc_1 ?_
                            refine fs_iadd (p := 479) (by decide +kernel) rfl ?_
                            obtain ⟨v317, w318, h⟩ := fx_bd h
                            refine fs_iaload_s (p := 480) (by decide +kernel) rfl w318 ?_
                            refine fs_aload_n_a (k := 0) (p := 481) (by decide +kernel) rfl rfl ?_
                            refine fs_iload_n (k := 3) (p := 482) (by decide +kernel) rfl rfl ?_
                            refine fs_iconst (n := 2) (p := 483) (by decide +kernel) rfl kc_2 ?_
                            refine fs_iadd (p := 484) (by decide +kernel) rfl ?_
                            obtain ⟨v319, w320, h⟩ := fx_bd h
                            refine fs_iaload_s (p := 485) (by decide +kernel) rfl w320 ?_
                            refine fs_aload_n_a (k := 0) (p := 486) (by decide +kernel) rfl rfl ?_
                            refine fs_iload_n (k := 3) (p := 487) (by decide +kernel) rfl rfl ?_
                            refine fs_iconst (n := 3) (p := 488) (by decide +kernel) rfl kc_3 ?_
                            refine fs_iadd (p := 489) (by decide +kernel) rfl ?_
                            obtain ⟨v321, w322, h⟩ := fx_bd h
                            refine fs_iaload_s (p := 490) (by decide +kernel) rfl w322 ?_
                            obtain ⟨q324, w323, h⟩ := fx_bd h
                            refine fs_callV (idx := 61) (mj := 218) (ci := 10) (na := 3) (mx := 5) (p := 493) (args := [.ref 215, .int v317, .int v319, .int v321]) (rest := []) (al2 := [some (.ref 215), some (.int v317), some (.int v319), some (.int v321), none]) (by decide +kernel) rfl (by decide +kernel) fo_215 rfl rfl rfl rfl rfl rfl rfl (by omega) (fun d' hd' => fe_218 (by omega) w323) rfl ?_
                            refine fs_pop (p := 494) (by decide +kernel) rfl rfl ?_
                            refine fs_goto (off := 627) (p := 1121) (by decide +kernel) (by decide +kernel) ?_
                            exact fe_236_1121 hd ih _ _ _ h
                          · rw [if_neg c17] at h
                            by_cases c18 : (v4 &&& (31 : Int32)) = (11 : Int32)
                            · rw [if_pos c18] at h
                              refine fs_tsw_h (dflt := 1088) (lo := 0) (hi := 28) (offs := #[131, 194, 217, 240, 263, 306, 339, 372, 395, 408, 421, 464, 497, 530, 583, 626, 669, 712, 745, 778, 811, 834, 887, 920, 963, 986, 1009, 1032, 1065]) (x := (v4 &&& (31 : Int32))) (j := 11) (t := 497) (by decide +kernel) (by decide +kernel) (by decide) (c18.trans (by decide)) ?_
                              refine fs_aload_n (k := 1) (p := 498) (by decide +kernel) rfl rfl ?_
                              refine fs_aload_n_a (k := 0) (p := 499) (by decide +kernel) rfl rfl ?_
                              refine fs_iload_n (k := 3) (p := 500) (by decide +kernel) rfl rfl ?_
                              refine fs_iconst (n := 1) (p := 501) (by decide +kernel) rfl kc_1 ?_
                              refine fs_iadd (p := 502) (by decide +kernel) rfl ?_
                              obtain ⟨v290, w291, h⟩ := fx_bd h
                              refine fs_iaload_s (p := 503) (by decide +kernel) rfl w291 ?_
                              refine fs_aload_n_a (k := 0) (p := 504) (by decide +kernel) rfl rfl ?_
                              refine fs_iload_n (k := 3) (p := 505) (by decide +kernel) rfl rfl ?_
                              refine fs_iconst (n := 2) (p := 506) (by decide +kernel) rfl kc_2 ?_
                              refine fs_iadd (p := 507) (by decide +kernel) rfl ?_
                              obtain ⟨v293, w294, h⟩ := fx_bd h
                              refine fs_iaload_s (p := 508) (by decide +kernel) rfl w294 ?_
                              obtain ⟨q297, w296, h⟩ := fx_bd h
                              refine fs_callV (idx := 62) (mj := 96) (ci := 9) (na := 2) (mx := 5) (p := 511) (args := [.ref 0, .int v290, .int v293]) (rest := []) (al2 := [some (.ref 0), some (.int v290), some (.int v293), none, none]) (by decide +kernel) rfl (by decide +kernel) fo_0 rfl rfl rfl rfl rfl rfl rfl (by omega) (fun d' hd' => fe_96 (by omega) w296) rfl ?_
                              refine fs_aload_n (k := 2) (p := 512) (by decide +kernel) rfl rfl ?_
                              refine fs_aload_n_a (k := 0) (p := 513) (by decide +kernel) rfl rfl ?_
                              refine fs_iload_n (k := 3) (p := 514) (by decide +kernel) rfl rfl ?_
                              refine fs_iconst (n := 1) (p := 515) (by decide +kernel) rfl kc_1 ?_
                              refine fs_iadd (p := 516) (by decide +kernel) rfl ?_
                              obtain ⟨v298, w299, h⟩ := fx_bd h
                              refine fs_iaload_s (p := 517) (by decide +kernel) rfl w299 ?_
                              refine fs_aload_n_a (k := 0) (p := 518) (by decide +kernel) rfl rfl ?_
                              refine fs_iload_n (k := 3) (p := 519) (by decide +kernel) rfl rfl ?_
                              refine fs_iconst (n := 2) (p := 520) (by decide +kernel) rfl kc_2 ?_
                              refine fs_iadd (p := 521) (by decide +kernel) rfl ?_
                              obtain ⟨v300, w301, h⟩ := fx_bd h
                              refine fs_iaload_s (p := 522) (by decide +kernel) rfl w301 ?_
                              obtain ⟨q303, w302, h⟩ := fx_bd h
                              refine fs_callV (idx := 65) (mj := 220) (ci := 10) (na := 2) (mx := 8) (p := 525) (args := [.ref 215, .int v298, .int v300]) (rest := [.int q297.1]) (al2 := [some (.ref 215), some (.int v298), some (.int v300), none, none, none, none, none]) (by decide +kernel) rfl (by decide +kernel) fo_215 rfl rfl rfl rfl rfl rfl rfl (by omega) (fun d' hd' => fe_220 (by omega) w302) rfl ?_
                              by_cases c305 : q297.1 = q303.1
                              · rw [if_pos c305] at h
                                refine fs_icmp_eq_t (off := 596) (t := 1121) (by decide +kernel) (by decide +kernel) c305 ?_
                                exact fe_236_1121 hd ih _ _ _ h
                              · rw [if_neg c305] at h
                                refine fs_icmp_eq_f (off := 596) (t := 1121) (p := 528) (by decide +kernel) (by decide +kernel) rfl c305 ?_
                                refine fs_iconst (n := 0) (p := 529) (by decide +kernel) rfl kc_0 ?_
                                have h := Option.some.inj h
                                subst h
                                exact fs_zret (b := false) (by decide +kernel) rt_236
                            · rw [if_neg c18] at h
                              by_cases c19 : (v4 &&& (31 : Int32)) = (12 : Int32)
                              · rw [if_pos c19] at h
                                refine fs_tsw_h (dflt := 1088) (lo := 0) (hi := 28) (offs := #[131, 194, 217, 240, 263, 306, 339, 372, 395, 408, 421, 464, 497, 530, 583, 626, 669, 712, 745, 778, 811, 834, 887, 920, 963, 986, 1009, 1032, 1065]) (x := (v4 &&& (31 : Int32))) (j := 12) (t := 530) (by decide +kernel) (by decide +kernel) (by decide) (c19.trans (by decide)) ?_
                                refine fs_aload_n (k := 1) (p := 531) (by decide +kernel) rfl rfl ?_
                                refine fs_aload_n_a (k := 0) (p := 532) (by decide +kernel) rfl rfl ?_
                                refine fs_iload_n (k := 3) (p := 533) (by decide +kernel) rfl rfl ?_
                                refine fs_iconst (n := 1) (p := 534) (by decide +kernel) rfl kc_1 ?_
                                refine fs_iadd (p := 535) (by decide +kernel) rfl ?_
                                obtain ⟨v276, w277, h⟩ := fx_bd h
                                refine fs_iaload_s (p := 536) (by decide +kernel) rfl w277 ?_
                                refine fs_aload_n_a (k := 0) (p := 537) (by decide +kernel) rfl rfl ?_
                                refine fs_iload_n (k := 3) (p := 538) (by decide +kernel) rfl rfl ?_
                                refine fs_iconst (n := 2) (p := 539) (by decide +kernel) rfl kc_2 ?_
                                refine fs_iadd (p := 540) (by decide +kernel) rfl ?_
                                obtain ⟨v279, w280, h⟩ := fx_bd h
                                refine fs_iaload_s (p := 541) (by decide +kernel) rfl w280 ?_
                                obtain ⟨q283, w282, h⟩ := fx_bd h
                                refine fs_callV (idx := 66) (mj := 97) (ci := 9) (na := 2) (mx := 4) (p := 544) (args := [.ref 0, .int v276, .int v279]) (rest := []) (al2 := [some (.ref 0), some (.int v276), some (.int v279), none]) (by decide +kernel) rfl (by decide +kernel) fo_0 rfl rfl rfl rfl rfl rfl rfl (by omega) (fun d' hd' => fe_97 (by omega) w282) rfl ?_
                                refine fs_pop (p := 545) (by decide +kernel) rfl rfl ?_
                                refine fs_aload_n (k := 2) (p := 546) (by decide +kernel) rfl rfl ?_
                                refine fs_aload_n_a (k := 0) (p := 547) (by decide +kernel) rfl rfl ?_
                                refine fs_iload_n (k := 3) (p := 548) (by decide +kernel) rfl rfl ?_
                                refine fs_iconst (n := 1) (p := 549) (by decide +kernel) rfl kc_1 ?_
                                refine fs_iadd (p := 550) (by decide +kernel) rfl ?_
                                obtain ⟨v284, w285, h⟩ := fx_bd h
                                refine fs_iaload_s (p := 551) (by decide +kernel) rfl w285 ?_
                                refine fs_aload_n_a (k := 0) (p := 552) (by decide +kernel) rfl rfl ?_
                                refine fs_iload_n (k := 3) (p := 553) (by decide +kernel) rfl rfl ?_
                                refine fs_iconst (n := 2) (p := 554) (by decide +kernel) rfl kc_2 ?_
                                refine fs_iadd (p := 555) (by decide +kernel) rfl ?_
                                obtain ⟨v286, w287, h⟩ := fx_bd h
                                refine fs_iaload_s (p := 556) (by decide +kernel) rfl w287 ?_
                                obtain ⟨q289, w288, h⟩ := fx_bd h
                                refine fs_callV (idx := 69) (mj := 179) (ci := 10) (na := 2) (mx := 3) (p := 559) (args := [.ref 215, .int v284, .int v286]) (rest := []) (al2 := [some (.ref 215), some (.int v284), some (.int v286)]) (by decide +kernel) rfl (by decide +kernel) fo_215 rfl rfl rfl rfl rfl rfl rfl (by omega) (fun d' hd' => fe_179 (by omega) w288) rfl ?_
                                refine fs_pop (p := 560) (by decide +kernel) rfl rfl ?_
                                refine fs_goto (off := 561) (p := 1121) (by decide +kernel) (by decide +kernel) ?_
                                exact fe_236_1121 hd ih _ _ _ h
                              · rw [if_neg c19] at h
                                by_cases c20 : (v4 &&& (31 : Int32)) = (13 : Int32)
                                · rw [if_pos c20] at h
                                  refine fs_tsw_h (dflt := 1088) (lo := 0) (hi := 28) (offs := #[131, 194, 217, 240, 263, 306, 339, 372, 395, 408, 421, 464, 497, 530, 583, 626, 669, 712, 745, 778, 811, 834, 887, 920, 963, 986, 1009, 1032, 1065]) (x := (v4 &&& (31 : Int32))) (j := 13) (t := 563) (by decide +kernel) (by decide +kernel) (by decide) (c20.trans (by decide)) ?_
                                  refine fs_aload_n (k := 1) (p := 564) (by decide +kernel) rfl rfl ?_
                                  refine fs_aload_n_a (k := 0) (p := 565) (by decide +kernel) rfl rfl ?_
                                  refine fs_iload_n (k := 3) (p := 566) (by decide +kernel) rfl rfl ?_
                                  refine fs_iconst (n := 1) (p := 567) (by decide +kernel) rfl kc_1 ?_
                                  refine fs_iadd (p := 568) (by decide +kernel) rfl ?_
                                  obtain ⟨v252, w253, h⟩ := fx_bd h
                                  refine fs_iaload_s (p := 569) (by decide +kernel) rfl w253 ?_
                                  refine fs_aload_n_a (k := 0) (p := 570) (by decide +kernel) rfl rfl ?_
                                  refine fs_iload_n (k := 3) (p := 571) (by decide +kernel) rfl rfl ?_
                                  refine fs_iconst (n := 2) (p := 572) (by decide +kernel) rfl kc_2 ?_
                                  refine fs_iadd (p := 573) (by decide +kernel) rfl ?_
                                  obtain ⟨v255, w256, h⟩ := fx_bd h
                                  refine fs_iaload_s (p := 574) (by decide +kernel) rfl w256 ?_
                                  refine fs_aload_n_a (k := 0) (p := 575) (by decide +kernel) rfl rfl ?_
                                  refine fs_iload_n (k := 3) (p := 576) (by decide +kernel) rfl rfl ?_
                                  refine fs_iconst (n := 3) (p := 577) (by decide +kernel) rfl kc_3 ?_
                                  refine fs_iadd (p := 578) (by decide +kernel) rfl ?_
                                  obtain ⟨v258, w259, h⟩ := fx_bd h
                                  refine fs_iaload_s (p := 579) (by decide +kernel) rfl w259 ?_
                                  refine fs_aload_n_a (k := 0) (p := 580) (by decide +kernel) rfl rfl ?_
                                  refine fs_iload_n (k := 3) (p := 581) (by decide +kernel) rfl rfl ?_
                                  refine fs_iconst (n := 4) (p := 582) (by decide +kernel) rfl kc_4 ?_
                                  refine fs_iadd (p := 583) (by decide +kernel) rfl ?_
                                  obtain ⟨v261, w262, h⟩ := fx_bd h
                                  refine fs_iaload_s (p := 584) (by decide +kernel) rfl w262 ?_
                                  obtain ⟨q265, w264, h⟩ := fx_bd h
                                  refine fs_callV (idx := 70) (mj := 98) (ci := 9) (na := 4) (mx := 8) (p := 587) (args := [.ref 0, .int v252, .int v255, .int v258, .int v261]) (rest := []) (al2 := [some (.ref 0), some (.int v252), some (.int v255), some (.int v258), some (.int v261), none, none, none]) (by decide +kernel) rfl (by decide +kernel) fo_0 rfl rfl rfl rfl rfl rfl rfl (by omega) (fun d' hd' => fe_98 (by omega) w264) rfl ?_
                                  refine fs_pop (p := 588) (by decide +kernel) rfl rfl ?_
                                  refine fs_aload_n (k := 2) (p := 589) (by decide +kernel) rfl rfl ?_
                                  refine fs_aload_n_a (k := 0) (p := 590) (by decide +kernel) rfl rfl ?_
                                  refine fs_iload_n (k := 3) (p := 591) (by decide +kernel) rfl rfl ?_
                                  refine fs_iconst (n := 1) (p := 592) (by decide +kernel) rfl kc_1 ?_
                                  refine fs_iadd (p := 593) (by decide +kernel) rfl ?_
                                  obtain ⟨v266, w267, h⟩ := fx_bd h
                                  refine fs_iaload_s (p := 594) (by decide +kernel) rfl w267 ?_
                                  refine fs_aload_n_a (k := 0) (p := 595) (by decide +kernel) rfl rfl ?_
                                  refine fs_iload_n (k := 3) (p := 596) (by decide +kernel) rfl rfl ?_
                                  refine fs_iconst (n := 2) (p := 597) (by decide +kernel) rfl kc_2 ?_
                                  refine fs_iadd (p := 598) (by decide +kernel) rfl ?_
                                  obtain ⟨v268, w269, h⟩ := fx_bd h
                                  refine fs_iaload_s (p := 599) (by decide +kernel) rfl w269 ?_
                                  refine fs_aload_n_a (k := 0) (p := 600) (by decide +kernel) rfl rfl ?_
                                  refine fs_iload_n (k := 3) (p := 601) (by decide +kernel) rfl rfl ?_
                                  refine fs_iconst (n := 3) (p := 602) (by decide +kernel) rfl kc_3 ?_
                                  refine fs_iadd (p := 603) (by decide +kernel) rfl ?_
                                  obtain ⟨v270, w271, h⟩ := fx_bd h
                                  refine fs_iaload_s (p := 604) (by decide +kernel) rfl w271 ?_
                                  refine fs_aload_n_a (k := 0) (p := 605) (by decide +kernel) rfl rfl ?_
                                  refine fs_iload_n (k := 3) (p := 606) (by decide +kernel) rfl rfl ?_
                                  refine fs_iconst (n := 4) (p := 607) (by decide +kernel) rfl kc_4 ?_
                                  refine fs_iadd (p := 608) (by decide +kernel) rfl ?_
                                  obtain ⟨v272, w273, h⟩ := fx_bd h
                                  refine fs_iaload_s (p := 609) (by decide +kernel) rfl w273 ?_
                                  obtain ⟨q275, w274, h⟩ := fx_bd h
                                  refine fs_callV (idx := 74) (mj := 195) (ci := 10) (na := 4) (mx := 6) (p := 612) (args := [.ref 215, .int v266, .int v268, .int v270, .int v272]) (rest := []) (al2 := [some (.ref 215), some (.int v266), some (.int v268), some (.int v270), some (.int v272), none]) (by decide +kernel) rfl (by decide +kernel) fo_215 rfl rfl rfl rfl rfl rfl rfl (by omega) (fun d' hd' => fe_195 (by omega) w274) rfl ?_
                                  refine fs_pop (p := 613) (by decide +kernel) rfl rfl ?_
                                  refine fs_goto (off := 508) (p := 1121) (by decide +kernel) (by decide +kernel) ?_
                                  exact fe_236_1121 hd ih _ _ _ h
                                · rw [if_neg c20] at h
                                  by_cases c21 : (v4 &&& (31 : Int32)) = (14 : Int32)
                                  · rw [if_pos c21] at h
                                    refine fs_tsw_h (dflt := 1088) (lo := 0) (hi := 28) (offs := #[131, 194, 217, 240, 263, 306, 339, 372, 395, 408, 421, 464, 497, 530, 583, 626, 669, 712, 745, 778, 811, 834, 887, 920, 963, 986, 1009, 1032, 1065]) (x := (v4 &&& (31 : Int32))) (j := 14) (t := 616) (by decide +kernel) (by decide +kernel) (by decide) (c21.trans (by decide)) ?_
                                    refine fs_aload_n (k := 1) (p := 617) (by decide +kernel) rfl rfl ?_
                                    refine fs_aload_n_a (k := 0) (p := 618) (by decide +kernel) rfl rfl ?_
                                    refine fs_iload_n (k := 3) (p := 619) (by decide +kernel) rfl rfl ?_
                                    refine fs_iconst (n := 1) (p := 620) (by decide +kernel) rfl kc_1 ?_
                                    refine fs_iadd (p := 621) (by decide +kernel) rfl ?_
                                    obtain ⟨v233, w234, h⟩ := fx_bd h
                                    refine fs_iaload_s (p := 622) (by decide +kernel) rfl w234 ?_
                                    refine fs_aload_n_a (k := 0) (p := 623) (by decide +kernel) rfl rfl ?_
                                    refine fs_iload_n (k := 3) (p := 624) (by decide +kernel) rfl rfl ?_
                                    refine fs_iconst (n := 2) (p := 625) (by decide +kernel) rfl kc_2 ?_
                                    refine fs_iadd (p := 626) (by decide +kernel) rfl ?_
                                    obtain ⟨v236, w237, h⟩ := fx_bd h
                                    refine fs_iaload_s (p := 627) (by decide +kernel) rfl w237 ?_
                                    refine fs_aload_n_a (k := 0) (p := 628) (by decide +kernel) rfl rfl ?_
                                    refine fs_iload_n (k := 3) (p := 629) (by decide +kernel) rfl rfl ?_
                                    refine fs_iconst (n := 3) (p := 630) (by decide +kernel) rfl kc_3 ?_
                                    refine fs_iadd (p := 631) (by decide +kernel) rfl ?_
                                    obtain ⟨v239, w240, h⟩ := fx_bd h
                                    refine fs_iaload_s (p := 632) (by decide +kernel) rfl w240 ?_
                                    obtain ⟨q243, w242, h⟩ := fx_bd h
                                    refine fs_callV (idx := 75) (mj := 99) (ci := 9) (na := 3) (mx := 12) (p := 635) (args := [.ref 0, .int v233, .int v236, .int v239]) (rest := []) (al2 := [some (.ref 0), some (.int v233), some (.int v236), some (.int v239), none, none, none, none, none, none, none, none]) (by decide +kernel) rfl (by decide +kernel) fo_0 rfl rfl rfl rfl rfl rfl rfl (by omega) (fun d' hd' => fe_99 (by omega) w242) rfl ?_
                                    refine fs_pop (p := 636) (by decide +kernel) rfl rfl ?_
                                    refine fs_aload_n (k := 2) (p := 637) (by decide +kernel) rfl rfl ?_
                                    refine fs_aload_n_a (k := 0) (p := 638) (by decide +kernel) rfl rfl ?_
                                    refine fs_iload_n (k := 3) (p := 639) (by decide +kernel) rfl rfl ?_
                                    refine fs_iconst (n := 1) (p := 640) (by decide +kernel) rfl kc_1 ?_
                                    refine fs_iadd (p := 641) (by decide +kernel) rfl ?_
                                    obtain ⟨v244, w245, h⟩ := fx_bd h
                                    refine fs_iaload_s (p := 642) (by decide +kernel) rfl w245 ?_
                                    refine fs_aload_n_a (k := 0) (p := 643) (by decide +kernel) rfl rfl ?_
                                    refine fs_iload_n (k := 3) (p := 644) (by decide +kernel) rfl rfl ?_
                                    refine fs_iconst (n := 2) (p := 645) (by decide +kernel) rfl kc_2 ?_
                                    refine fs_iadd (p := 646) (by decide +kernel) rfl ?_
                                    obtain ⟨v246, w247, h⟩ := fx_bd h
                                    refine fs_iaload_s (p := 647) (by decide +kernel) rfl w247 ?_
                                    refine fs_aload_n_a (k := 0) (p := 648) (by decide +kernel) rfl rfl ?_
                                    refine fs_iload_n (k := 3) (p := 649) (by decide +kernel) rfl rfl ?_
                                    refine fs_iconst (n := 3) (p := 650) (by decide +kernel) rfl kc_3 ?_
                                    refine fs_iadd (p := 651) (by decide +kernel) rfl ?_
                                    obtain ⟨v248, w249, h⟩ := fx_bd h
                                    refine fs_iaload_s (p := 652) (by decide +kernel) rfl w249 ?_
                                    obtain ⟨q251, w250, h⟩ := fx_bd h
                                    refine fs_callV (idx := 78) (mj := 185) (ci := 10) (na := 3) (mx := 4) (p := 655) (args := [.ref 215, .int v244, .int v246, .int v248]) (rest := []) (al2 := [some (.ref 215), some (.int v244), some (.int v246), some (.int v248)]) (by decide +kernel) rfl (by decide +kernel) fo_215 rfl rfl rfl rfl rfl rfl rfl (by omega) (fun d' hd' => fe_185 (by omega) w250) rfl ?_
                                    refine fs_pop (p := 656) (by decide +kernel) rfl rfl ?_
                                    refine fs_goto (off := 465) (p := 1121) (by decide +kernel) (by decide +kernel) ?_
                                    exact fe_236_1121 hd ih _ _ _ h
                                  · rw [if_neg c21] at h
                                    by_cases c22 : (v4 &&& (31 : Int32)) = (15 : Int32)
                                    · rw [if_pos c22] at h
                                      refine fs_tsw_h (dflt := 1088) (lo := 0) (hi := 28) (offs := #[131, 194, 217, 240, 263, 306, 339, 372, 395, 408, 421, 464, 497, 530, 583, 626, 669, 712, 745, 778, 811, 834, 887, 920, 963, 986, 1009, 1032, 1065]) (x := (v4 &&& (31 : Int32))) (j := 15) (t := 659) (by decide +kernel) (by decide +kernel) (by decide) (c22.trans (by decide)) ?_
                                      refine fs_aload_n (k := 1) (p := 660) (by decide +kernel) rfl rfl ?_
                                      refine fs_aload_n_a (k := 0) (p := 661) (by decide +kernel) rfl rfl ?_
                                      refine fs_iload_n (k := 3) (p := 662) (by decide +kernel) rfl rfl ?_
                                      refine fs_iconst (n := 1) (p := 663) (by decide +kernel) rfl kc_1 ?_
                                      refine fs_iadd (p := 664) (by decide +kernel) rfl ?_
                                      obtain ⟨v214, w215, h⟩ := fx_bd h
                                      refine fs_iaload_s (p := 665) (by decide +kernel) rfl w215 ?_
                                      refine fs_aload_n_a (k := 0) (p := 666) (by decide +kernel) rfl rfl ?_
                                      refine fs_iload_n (k := 3) (p := 667) (by decide +kernel) rfl rfl ?_
                                      refine fs_iconst (n := 2) (p := 668) (by decide +kernel) rfl kc_2 ?_
                                      refine fs_iadd (p := 669) (by decide +kernel) rfl ?_
                                      obtain ⟨v217, w218, h⟩ := fx_bd h
                                      refine fs_iaload_s (p := 670) (by decide +kernel) rfl w218 ?_
                                      refine fs_aload_n_a (k := 0) (p := 671) (by decide +kernel) rfl rfl ?_
                                      refine fs_iload_n (k := 3) (p := 672) (by decide +kernel) rfl rfl ?_
                                      refine fs_iconst (n := 3) (p := 673) (by decide +kernel) rfl kc_3 ?_
                                      refine fs_iadd (p := 674) (by decide +kernel) rfl ?_
                                      obtain ⟨v220, w221, h⟩ := fx_bd h
                                      refine fs_iaload_s (p := 675) (by decide +kernel) rfl w221 ?_
                                      obtain ⟨q224, w223, h⟩ := fx_bd h
                                      refine fs_callV (idx := 79) (mj := 100) (ci := 9) (na := 3) (mx := 9) (p := 678) (args := [.ref 0, .int v214, .int v217, .int v220]) (rest := []) (al2 := [some (.ref 0), some (.int v214), some (.int v217), some (.int v220), none, none, none, none, none]) (by decide +kernel) rfl (by decide +kernel) fo_0 rfl rfl rfl rfl rfl rfl rfl (by omega) (fun d' hd' => fe_100 (by omega) w223) rfl ?_
                                      refine fs_pop2 (p := 679) (by decide +kernel) rfl rfl ?_
                                      refine fs_aload_n (k := 2) (p := 680) (by decide +kernel) rfl rfl ?_
                                      refine fs_aload_n_a (k := 0) (p := 681) (by decide +kernel) rfl rfl ?_
                                      refine fs_iload_n (k := 3) (p := 682) (by decide +kernel) rfl rfl ?_
                                      refine fs_iconst (n := 1) (p := 683) (by decide +kernel) rfl kc_1 ?_
                                      refine fs_iadd (p := 684) (by decide +kernel) rfl ?_
                                      obtain ⟨v225, w226, h⟩ := fx_bd h
                                      refine fs_iaload_s (p := 685) (by decide +kernel) rfl w226 ?_
                                      refine fs_aload_n_a (k := 0) (p := 686) (by decide +kernel) rfl rfl ?_
                                      refine fs_iload_n (k := 3) (p := 687) (by decide +kernel) rfl rfl ?_
                                      refine fs_iconst (n := 2) (p := 688) (by decide +kernel) rfl kc_2 ?_
                                      refine fs_iadd (p := 689) (by decide +kernel) rfl ?_
                                      obtain ⟨v227, w228, h⟩ := fx_bd h
                                      refine fs_iaload_s (p := 690) (by decide +kernel) rfl w228 ?_
                                      refine fs_aload_n_a (k := 0) (p := 691) (by decide +kernel) rfl rfl ?_
                                      refine fs_iload_n (k := 3) (p := 692) (by decide +kernel) rfl rfl ?_
                                      refine fs_iconst (n := 3) (p := 693) (by decide +kernel) rfl kc_3 ?_
                                      refine fs_iadd (p := 694) (by decide +kernel) rfl ?_
                                      obtain ⟨v229, w230, h⟩ := fx_bd h
                                      refine fs_iaload_s (p := 695) (by decide +kernel) rfl w230 ?_
                                      obtain ⟨q232, w231, h⟩ := fx_bd h
                                      refine fs_callV (idx := 83) (mj := 196) (ci := 10) (na := 3) (mx := 7) (p := 698) (args := [.ref 215, .int v225, .int v227, .int v229]) (rest := []) (al2 := [some (.ref 215), some (.int v225), some (.int v227), some (.int v229), none, none, none]) (by decide +kernel) rfl (by decide +kernel) fo_215 rfl rfl rfl rfl rfl rfl rfl (by omega) (fun d' hd' => fe_196 (by omega) w231) rfl ?_
                                      refine fs_pop2 (p := 699) (by decide +kernel) rfl rfl ?_
                                      refine fs_goto (off := 422) (p := 1121) (by decide +kernel) (by decide +kernel) ?_
                                      exact fe_236_1121 hd ih _ _ _ h
                                    · rw [if_neg c22] at h
                                      by_cases c23 : (v4 &&& (31 : Int32)) = (16 : Int32)
                                      · rw [if_pos c23] at h
                                        refine fs_tsw_h (dflt := 1088) (lo := 0) (hi := 28) (offs := #[131, 194, 217, 240, 263, 306, 339, 372, 395, 408, 421, 464, 497, 530, 583, 626, 669, 712, 745, 778, 811, 834, 887, 920, 963, 986, 1009, 1032, 1065]) (x := (v4 &&& (31 : Int32))) (j := 16) (t := 702) (by decide +kernel) (by decide +kernel) (by decide) (c23.trans (by decide)) ?_
                                        refine fs_aload_n (k := 1) (p := 703) (by decide +kernel) rfl rfl ?_
                                        refine fs_aload_n_a (k := 0) (p := 704) (by decide +kernel) rfl rfl ?_
                                        refine fs_iload_n (k := 3) (p := 705) (by decide +kernel) rfl rfl ?_
                                        refine fs_iconst (n := 1) (p := 706) (by decide +kernel) rfl kc_1 ?_
                                        refine fs_iadd (p := 707) (by decide +kernel) rfl ?_
                                        obtain ⟨v195, w196, h⟩ := fx_bd h
                                        refine fs_iaload_s (p := 708) (by decide +kernel) rfl w196 ?_
                                        refine fs_aload_n_a (k := 0) (p := 709) (by decide +kernel) rfl rfl ?_
                                        refine fs_iload_n (k := 3) (p := 710) (by decide +kernel) rfl rfl ?_
                                        refine fs_iconst (n := 2) (p := 711) (by decide +kernel) rfl kc_2 ?_
                                        refine fs_iadd (p := 712) (by decide +kernel) rfl ?_
                                        obtain ⟨v198, w199, h⟩ := fx_bd h
                                        refine fs_iaload_s (p := 713) (by decide +kernel) rfl w199 ?_
                                        refine fs_aload_n_a (k := 0) (p := 714) (by decide +kernel) rfl rfl ?_
                                        refine fs_iload_n (k := 3) (p := 715) (by decide +kernel) rfl rfl ?_
                                        refine fs_iconst (n := 3) (p := 716) (by decide +kernel) rfl kc_3 ?_
                                        refine fs_iadd (p := 717) (by decide +kernel) rfl ?_
                                        obtain ⟨v201, w202, h⟩ := fx_bd h
                                        refine fs_iaload_s (p := 718) (by decide +kernel) rfl w202 ?_
                                        obtain ⟨q205, w204, h⟩ := fx_bd h
                                        refine fs_callV (idx := 84) (mj := 101) (ci := 9) (na := 3) (mx := 7) (p := 721) (args := [.ref 0, .int v195, .int v198, .int v201]) (rest := []) (al2 := [some (.ref 0), some (.int v195), some (.int v198), some (.int v201), none, none, none]) (by decide +kernel) rfl (by decide +kernel) fo_0 rfl rfl rfl rfl rfl rfl rfl (by omega) (fun d' hd' => fe_101 (by omega) w204) rfl ?_
                                        refine fs_pop (p := 722) (by decide +kernel) rfl rfl ?_
                                        refine fs_aload_n (k := 2) (p := 723) (by decide +kernel) rfl rfl ?_
                                        refine fs_aload_n_a (k := 0) (p := 724) (by decide +kernel) rfl rfl ?_
                                        refine fs_iload_n (k := 3) (p := 725) (by decide +kernel) rfl rfl ?_
                                        refine fs_iconst (n := 1) (p := 726) (by decide +kernel) rfl kc_1 ?_
                                        refine fs_iadd (p := 727) (by decide +kernel) rfl ?_
                                        obtain ⟨v206, w207, h⟩ := fx_bd h
                                        refine fs_iaload_s (p := 728) (by decide +kernel) rfl w207 ?_
                                        refine fs_aload_n_a (k := 0) (p := 729) (by decide +kernel) rfl rfl ?_
                                        refine fs_iload_n (k := 3) (p := 730) (by decide +kernel) rfl rfl ?_
                                        refine fs_iconst (n := 2) (p := 731) (by decide +kernel) rfl kc_2 ?_
                                        refine fs_iadd (p := 732) (by decide +kernel) rfl ?_
                                        obtain ⟨v208, w209, h⟩ := fx_bd h
                                        refine fs_iaload_s (p := 733) (by decide +kernel) rfl w209 ?_
                                        refine fs_aload_n_a (k := 0) (p := 734) (by decide +kernel) rfl rfl ?_
                                        refine fs_iload_n (k := 3) (p := 735) (by decide +kernel) rfl rfl ?_
                                        refine fs_iconst (n := 3) (p := 736) (by decide +kernel) rfl kc_3 ?_
                                        refine fs_iadd (p := 737) (by decide +kernel) rfl ?_
                                        obtain ⟨v210, w211, h⟩ := fx_bd h
                                        refine fs_iaload_s (p := 738) (by decide +kernel) rfl w211 ?_
                                        obtain ⟨q213, w212, h⟩ := fx_bd h
                                        refine fs_callV (idx := 87) (mj := 188) (ci := 10) (na := 3) (mx := 6) (p := 741) (args := [.ref 215, .int v206, .int v208, .int v210]) (rest := []) (al2 := [some (.ref 215), some (.int v206), some (.int v208), some (.int v210), none, none]) (by decide +kernel) rfl (by decide +kernel) fo_215 rfl rfl rfl rfl rfl rfl rfl (by omega) (fun d' hd' => fe_188 (by omega) w212) rfl ?_
                                        refine fs_pop (p := 742) (by decide +kernel) rfl rfl ?_
                                        refine fs_goto (off := 379) (p := 1121) (by decide +kernel) (by decide +kernel) ?_
                                        exact fe_236_1121 hd ih _ _ _ h
                                      · rw [if_neg c23] at h
                                        by_cases c24 : (v4 &&& (31 : Int32)) = (17 : Int32)
                                        · rw [if_pos c24] at h
                                          refine fs_tsw_h (dflt := 1088) (lo := 0) (hi := 28) (offs := #[131, 194, 217, 240, 263, 306, 339, 372, 395, 408, 421, 464, 497, 530, 583, 626, 669, 712, 745, 778, 811, 834, 887, 920, 963, 986, 1009, 1032, 1065]) (x := (v4 &&& (31 : Int32))) (j := 17) (t := 745) (by decide +kernel) (by decide +kernel) (by decide) (c24.trans (by decide)) ?_
                                          refine fs_aload_n (k := 1) (p := 746) (by decide +kernel) rfl rfl ?_
                                          refine fs_aload_n_a (k := 0) (p := 747) (by decide +kernel) rfl rfl ?_
                                          refine fs_iload_n (k := 3) (p := 748) (by decide +kernel) rfl rfl ?_
                                          refine fs_iconst (n := 1) (p := 749) (by decide +kernel) rfl kc_1 ?_
                                          refine fs_iadd (p := 750) (by decide +kernel) rfl ?_
                                          obtain ⟨v181, w182, h⟩ := fx_bd h
                                          refine fs_iaload_s (p := 751) (by decide +kernel) rfl w182 ?_
                                          refine fs_aload_n_a (k := 0) (p := 752) (by decide +kernel) rfl rfl ?_
                                          refine fs_iload_n (k := 3) (p := 753) (by decide +kernel) rfl rfl ?_
                                          refine fs_iconst (n := 2) (p := 754) (by decide +kernel) rfl kc_2 ?_
                                          refine fs_iadd (p := 755) (by decide +kernel) rfl ?_
                                          obtain ⟨v184, w185, h⟩ := fx_bd h
                                          refine fs_iaload_s (p := 756) (by decide +kernel) rfl w185 ?_
                                          obtain ⟨q188, w187, h⟩ := fx_bd h
                                          refine fs_callV (idx := 88) (mj := 102) (ci := 9) (na := 2) (mx := 5) (p := 759) (args := [.ref 0, .int v181, .int v184]) (rest := []) (al2 := [some (.ref 0), some (.int v181), some (.int v184), none, none]) (by decide +kernel) rfl (by decide +kernel) fo_0 rfl rfl rfl rfl rfl rfl rfl (by omega) (fun d' hd' => fe_102 (by omega) w187) rfl ?_
                                          refine fs_pop2 (p := 760) (by decide +kernel) rfl rfl ?_
                                          refine fs_aload_n (k := 2) (p := 761) (by decide +kernel) rfl rfl ?_
                                          refine fs_aload_n_a (k := 0) (p := 762) (by decide +kernel) rfl rfl ?_
                                          refine fs_iload_n (k := 3) (p := 763) (by decide +kernel) rfl rfl ?_
                                          refine fs_iconst (n := 1) (p := 764) (by decide +kernel) rfl kc_1 ?_
                                          refine fs_iadd (p := 765) (by decide +kernel) rfl ?_
                                          obtain ⟨v189, w190, h⟩ := fx_bd h
                                          refine fs_iaload_s (p := 766) (by decide +kernel) rfl w190 ?_
                                          refine fs_aload_n_a (k := 0) (p := 767) (by decide +kernel) rfl rfl ?_
                                          refine fs_iload_n (k := 3) (p := 768) (by decide +kernel) rfl rfl ?_
                                          refine fs_iconst (n := 2) (p := 769) (by decide +kernel) rfl kc_2 ?_
                                          refine fs_iadd (p := 770) (by decide +kernel) rfl ?_
                                          obtain ⟨v191, w192, h⟩ := fx_bd h
                                          refine fs_iaload_s (p := 771) (by decide +kernel) rfl w192 ?_
                                          obtain ⟨q194, w193, h⟩ := fx_bd h
                                          refine fs_callV (idx := 92) (mj := 210) (ci := 10) (na := 2) (mx := 3) (p := 774) (args := [.ref 215, .int v189, .int v191]) (rest := []) (al2 := [some (.ref 215), some (.int v189), some (.int v191)]) (by decide +kernel) rfl (by decide +kernel) fo_215 rfl rfl rfl rfl rfl rfl rfl (by omega) (fun d' hd' => fe_210 (by omega) w193) rfl ?_
                                          refine fs_pop2 (p := 775) (by decide +kernel) rfl rfl ?_
                                          refine fs_goto (off := 346) (p := 1121) (by decide +kernel) (by decide +kernel) ?_
                                          exact fe_236_1121 hd ih _ _ _ h
                                        · rw [if_neg c24] at h
                                          by_cases c25 : (v4 &&& (31 : Int32)) = (18 : Int32)
                                          · rw [if_pos c25] at h
                                            refine fs_tsw_h (dflt := 1088) (lo := 0) (hi := 28) (offs := #[131, 194, 217, 240, 263, 306, 339, 372, 395, 408, 421, 464, 497, 530, 583, 626, 669, 712, 745, 778, 811, 834, 887, 920, 963, 986, 1009, 1032, 1065]) (x := (v4 &&& (31 : Int32))) (j := 18) (t := 778) (by decide +kernel) (by decide +kernel) (by decide) (c25.trans (by decide)) ?_
                                            refine fs_aload_n (k := 1) (p := 779) (by decide +kernel) rfl rfl ?_
                                            refine fs_aload_n_a (k := 0) (p := 780) (by decide +kernel) rfl rfl ?_
                                            refine fs_iload_n (k := 3) (p := 781) (by decide +kernel) rfl rfl ?_
                                            refine fs_iconst (n := 1) (p := 782) (by decide +kernel) rfl kc_1 ?_
                                            refine fs_iadd (p := 783) (by decide +kernel) rfl ?_
                                            obtain ⟨v167, w168, h⟩ := fx_bd h
                                            refine fs_iaload_s (p := 784) (by decide +kernel) rfl w168 ?_
                                            refine fs_aload_n_a (k := 0) (p := 785) (by decide +kernel) rfl rfl ?_
                                            refine fs_iload_n (k := 3) (p := 786) (by decide +kernel) rfl rfl ?_
                                            refine fs_iconst (n := 2) (p := 787) (by decide +kernel) rfl kc_2 ?_
                                            refine fs_iadd (p := 788) (by decide +kernel) rfl ?_
                                            obtain ⟨v170, w171, h⟩ := fx_bd h
                                            refine fs_iaload_s (p := 789) (by decide +kernel) rfl w171 ?_
                                            obtain ⟨q174, w173, h⟩ := fx_bd h
                                            refine fs_callV (idx := 93) (mj := 103) (ci := 9) (na := 2) (mx := 3) (p := 792) (args := [.ref 0, .int v167, .int v170]) (rest := []) (al2 := [some (.ref 0), some (.int v167), some (.int v170)]) (by decide +kernel) rfl (by decide +kernel) fo_0 rfl rfl rfl rfl rfl rfl rfl (by omega) (fun d' hd' => fe_103 (by omega) w173) rfl ?_
                                            refine fs_pop (p := 793) (by decide +kernel) rfl rfl ?_
                                            refine fs_aload_n (k := 2) (p := 794) (by decide +kernel) rfl rfl ?_
                                            refine fs_aload_n_a (k := 0) (p := 795) (by decide +kernel) rfl rfl ?_
                                            refine fs_iload_n (k := 3) (p := 796) (by decide +kernel) rfl rfl ?_
                                            refine fs_iconst (n := 1) (p := 797) (by decide +kernel) rfl kc_1 ?_
                                            refine fs_iadd (p := 798) (by decide +kernel) rfl ?_
                                            obtain ⟨v175, w176, h⟩ := fx_bd h
                                            refine fs_iaload_s (p := 799) (by decide +kernel) rfl w176 ?_
                                            refine fs_aload_n_a (k := 0) (p := 800) (by decide +kernel) rfl rfl ?_
                                            refine fs_iload_n (k := 3) (p := 801) (by decide +kernel) rfl rfl ?_
                                            refine fs_iconst (n := 2) (p := 802) (by decide +kernel) rfl kc_2 ?_
                                            refine fs_iadd (p := 803) (by decide +kernel) rfl ?_
                                            obtain ⟨v177, w178, h⟩ := fx_bd h
                                            refine fs_iaload_s (p := 804) (by decide +kernel) rfl w178 ?_
                                            obtain ⟨q180, w179, h⟩ := fx_bd h
                                            refine fs_callV (idx := 96) (mj := 189) (ci := 10) (na := 2) (mx := 4) (p := 807) (args := [.ref 215, .int v175, .int v177]) (rest := []) (al2 := [some (.ref 215), some (.int v175), some (.int v177), none]) (by decide +kernel) rfl (by decide +kernel) fo_215 rfl rfl rfl rfl rfl rfl rfl (by omega) (fun d' hd' => fe_189 (by omega) w179) rfl ?_
                                            refine fs_pop (p := 808) (by decide +kernel) rfl rfl ?_
                                            refine fs_goto (off := 313) (p := 1121) (by decide +kernel) (by decide +kernel) ?_
                                            exact fe_236_1121 hd ih _ _ _ h
                                          · rw [if_neg c25] at h
                                            by_cases c26 : (v4 &&& (31 : Int32)) = (19 : Int32)
                                            · rw [if_pos c26] at h
                                              refine fs_tsw_h (dflt := 1088) (lo := 0) (hi := 28) (offs := #[131, 194, 217, 240, 263, 306, 339, 372, 395, 408, 421, 464, 497, 530, 583, 626, 669, 712, 745, 778, 811, 834, 887, 920, 963, 986, 1009, 1032, 1065]) (x := (v4 &&& (31 : Int32))) (j := 19) (t := 811) (by decide +kernel) (by decide +kernel) (by decide) (c26.trans (by decide)) ?_
                                              refine fs_aload_n (k := 1) (p := 812) (by decide +kernel) rfl rfl ?_
                                              refine fs_aload_n_a (k := 0) (p := 813) (by decide +kernel) rfl rfl ?_
                                              refine fs_iload_n (k := 3) (p := 814) (by decide +kernel) rfl rfl ?_
                                              refine fs_iconst (n := 1) (p := 815) (by decide +kernel) rfl kc_1 ?_
                                              refine fs_iadd (p := 816) (by decide +kernel) rfl ?_
                                              obtain ⟨v153, w154, h⟩ := fx_bd h
                                              refine fs_iaload_s (p := 817) (by decide +kernel) rfl w154 ?_
                                              refine fs_aload_n_a (k := 0) (p := 818) (by decide +kernel) rfl rfl ?_
                                              refine fs_iload_n (k := 3) (p := 819) (by decide +kernel) rfl rfl ?_
                                              refine fs_iconst (n := 2) (p := 820) (by decide +kernel) rfl kc_2 ?_
                                              refine fs_iadd (p := 821) (by decide +kernel) rfl ?_
                                              obtain ⟨v156, w157, h⟩ := fx_bd h
                                              refine fs_iaload_s (p := 822) (by decide +kernel) rfl w157 ?_
                                              obtain ⟨q160, w159, h⟩ := fx_bd h
                                              refine fs_callV (idx := 97) (mj := 104) (ci := 9) (na := 2) (mx := 3) (p := 825) (args := [.ref 0, .int v153, .int v156]) (rest := []) (al2 := [some (.ref 0), some (.int v153), some (.int v156)]) (by decide +kernel) rfl (by decide +kernel) fo_0 rfl rfl rfl rfl rfl rfl rfl (by omega) (fun d' hd' => fe_104 (by omega) w159) rfl ?_
                                              refine fs_pop (p := 826) (by decide +kernel) rfl rfl ?_
                                              refine fs_aload_n (k := 2) (p := 827) (by decide +kernel) rfl rfl ?_
                                              refine fs_aload_n_a (k := 0) (p := 828) (by decide +kernel) rfl rfl ?_
                                              refine fs_iload_n (k := 3) (p := 829) (by decide +kernel) rfl rfl ?_
                                              refine fs_iconst (n := 1) (p := 830) (by decide +kernel) rfl kc_1 ?_
                                              refine fs_iadd (p := 831) (by decide +kernel) rfl ?_
                                              obtain ⟨v161, w162, h⟩ := fx_bd h
                                              refine fs_iaload_s (p := 832) (by decide +kernel) rfl w162 ?_
                                              refine fs_aload_n_a (k := 0) (p := 833) (by decide +kernel) rfl rfl ?_
                                              refine fs_iload_n (k := 3) (p := 834) (by decide +kernel) rfl rfl ?_
                                              refine fs_iconst (n := 2) (p := 835) (by decide +kernel) rfl kc_2 ?_
                                              refine fs_iadd (p := 836) (by decide +kernel) rfl ?_
                                              obtain ⟨v163, w164, h⟩ := fx_bd h
                                              refine fs_iaload_s (p := 837) (by decide +kernel) rfl w164 ?_
                                              obtain ⟨q166, w165, h⟩ := fx_bd h
                                              refine fs_callV (idx := 100) (mj := 192) (ci := 10) (na := 2) (mx := 3) (p := 840) (args := [.ref 215, .int v161, .int v163]) (rest := []) (al2 := [some (.ref 215), some (.int v161), some (.int v163)]) (by decide +kernel) rfl (by decide +kernel) fo_215 rfl rfl rfl rfl rfl rfl rfl (by omega) (fun d' hd' => fe_192 (by omega) w165) rfl ?_
                                              refine fs_pop (p := 841) (by decide +kernel) rfl rfl ?_
                                              refine fs_goto (off := 280) (p := 1121) (by decide +kernel) (by decide +kernel) ?_
                                              exact fe_236_1121 hd ih _ _ _ h
                                            · rw [if_neg c26] at h
                                              by_cases c27 : (v4 &&& (31 : Int32)) = (20 : Int32)
                                              · rw [if_pos c27] at h
                                                refine fs_tsw_h (dflt := 1088) (lo := 0) (hi := 28) (offs := #[131, 194, 217, 240, 263, 306, 339, 372, 395, 408, 421, 464, 497, 530, 583, 626, 669, 712, 745, 778, 811, 834, 887, 920, 963, 986, 1009, 1032, 1065]) (x := (v4 &&& (31 : Int32))) (j := 20) (t := 844) (by decide +kernel) (by decide +kernel) (by decide) (c27.trans (by decide)) ?_
                                                refine fs_aload_n (k := 1) (p := 845) (by decide +kernel) rfl rfl ?_
                                                refine fs_aload_n_a (k := 0) (p := 846) (by decide +kernel) rfl rfl ?_
                                                refine fs_iload_n (k := 3) (p := 847) (by decide +kernel) rfl rfl ?_
                                                refine fs_iconst (n := 1) (p := 848) (by decide +kernel) rfl kc_1 ?_
                                                refine fs_iadd (p := 849) (by decide +kernel) rfl ?_
                                                obtain ⟨v144, w145, h⟩ := fx_bd h
                                                refine fs_iaload_s (p := 850) (by decide +kernel) rfl w145 ?_
                                                obtain ⟨q148, w147, h⟩ := fx_bd h
                                                refine fs_callV (idx := 101) (mj := 105) (ci := 9) (na := 1) (mx := 5) (p := 853) (args := [.ref 0, .int v144]) (rest := []) (al2 := [some (.ref 0), some (.int v144), none, none, none]) (by decide +kernel) rfl (by decide +kernel) fo_0 rfl rfl rfl rfl rfl rfl rfl (by omega) (fun d' hd' => fe_105 (by omega) w147) rfl ?_
                                                refine fs_pop (p := 854) (by decide +kernel) rfl rfl ?_
                                                refine fs_aload_n (k := 2) (p := 855) (by decide +kernel) rfl rfl ?_
                                                refine fs_aload_n_a (k := 0) (p := 856) (by decide +kernel) rfl rfl ?_
                                                refine fs_iload_n (k := 3) (p := 857) (by decide +kernel) rfl rfl ?_
                                                refine fs_iconst (n := 1) (p := 858) (by decide +kernel) rfl kc_1 ?_
                                                refine fs_iadd (p := 859) (by decide +kernel) rfl ?_
                                                obtain ⟨v149, w150, h⟩ := fx_bd h
                                                refine fs_iaload_s (p := 860) (by decide +kernel) rfl w150 ?_
                                                obtain ⟨q152, w151, h⟩ := fx_bd h
                                                refine fs_callV (idx := 104) (mj := 193) (ci := 10) (na := 1) (mx := 4) (p := 863) (args := [.ref 215, .int v149]) (rest := []) (al2 := [some (.ref 215), some (.int v149), none, none]) (by decide +kernel) rfl (by decide +kernel) fo_215 rfl rfl rfl rfl rfl rfl rfl (by omega) (fun d' hd' => fe_193 (by omega) w151) rfl ?_
                                                refine fs_pop (p := 864) (by decide +kernel) rfl rfl ?_
                                                refine fs_goto (off := 257) (p := 1121) (by decide +kernel) (by decide +kernel) ?_
                                                exact fe_236_1121 hd ih _ _ _ h
                                              · rw [if_neg c27] at h
                                                by_cases c28 : (v4 &&& (31 : Int32)) = (21 : Int32)
                                                · rw [if_pos c28] at h
                                                  refine fs_tsw_h (dflt := 1088) (lo := 0) (hi := 28) (offs := #[131, 194, 217, 240, 263, 306, 339, 372, 395, 408, 421, 464, 497, 530, 583, 626, 669, 712, 745, 778, 811, 834, 887, 920, 963, 986, 1009, 1032, 1065]) (x := (v4 &&& (31 : Int32))) (j := 21) (t := 867) (by decide +kernel) (by decide +kernel) (by decide) (c28.trans (by decide)) ?_
                                                  refine fs_aload_n (k := 1) (p := 868) (by decide +kernel) rfl rfl ?_
                                                  refine fs_aload_n_a (k := 0) (p := 869) (by decide +kernel) rfl rfl ?_
                                                  refine fs_iload_n (k := 3) (p := 870) (by decide +kernel) rfl rfl ?_
                                                  refine fs_iconst (n := 1) (p := 871) (by decide +kernel) rfl kc_1 ?_
                                                  refine fs_iadd (p := 872) (by decide +kernel) rfl ?_
                                                  obtain ⟨v120, w121, h⟩ := fx_bd h
                                                  refine fs_iaload_s (p := 873) (by decide +kernel) rfl w121 ?_
                                                  refine fs_aload_n_a (k := 0) (p := 874) (by decide +kernel) rfl rfl ?_
                                                  refine fs_iload_n (k := 3) (p := 875) (by decide +kernel) rfl rfl ?_
                                                  refine fs_iconst (n := 2) (p := 876) (by decide +kernel) rfl kc_2 ?_
                                                  refine fs_iadd (p := 877) (by decide +kernel) rfl ?_
                                                  obtain ⟨v123, w124, h⟩ := fx_bd h
                                                  refine fs_iaload_s (p := 878) (by decide +kernel) rfl w124 ?_
                                                  refine fs_aload_n_a (k := 0) (p := 879) (by decide +kernel) rfl rfl ?_
                                                  refine fs_iload_n (k := 3) (p := 880) (by decide +kernel) rfl rfl ?_
                                                  refine fs_iconst (n := 3) (p := 881) (by decide +kernel) rfl kc_3 ?_
                                                  refine fs_iadd (p := 882) (by decide +kernel) rfl ?_
                                                  obtain ⟨v126, w127, h⟩ := fx_bd h
                                                  refine fs_iaload_s (p := 883) (by decide +kernel) rfl w127 ?_
                                                  refine fs_aload_n_a (k := 0) (p := 884) (by decide +kernel) rfl rfl ?_
                                                  refine fs_iload_n (k := 3) (p := 885) (by decide +kernel) rfl rfl ?_
                                                  refine fs_iconst (n := 4) (p := 886) (by decide +kernel) rfl kc_4 ?_
                                                  refine fs_iadd (p := 887) (by decide +kernel) rfl ?_
                                                  obtain ⟨v129, w130, h⟩ := fx_bd h
                                                  refine fs_iaload_s (p := 888) (by decide +kernel) rfl w130 ?_
                                                  obtain ⟨q133, w132, h⟩ := fx_bd h
                                                  refine fs_callV (idx := 105) (mj := 106) (ci := 9) (na := 4) (mx := 7) (p := 891) (args := [.ref 0, .int v120, .int v123, .int v126, .int v129]) (rest := []) (al2 := [some (.ref 0), some (.int v120), some (.int v123), some (.int v126), some (.int v129), none, none]) (by decide +kernel) rfl (by decide +kernel) fo_0 rfl rfl rfl rfl rfl rfl rfl (by omega) (fun d' hd' => fe_106 (by omega) w132) rfl ?_
                                                  refine fs_pop2 (p := 892) (by decide +kernel) rfl rfl ?_
                                                  refine fs_aload_n (k := 2) (p := 893) (by decide +kernel) rfl rfl ?_
                                                  refine fs_aload_n_a (k := 0) (p := 894) (by decide +kernel) rfl rfl ?_
                                                  refine fs_iload_n (k := 3) (p := 895) (by decide +kernel) rfl rfl ?_
                                                  refine fs_iconst (n := 1) (p := 896) (by decide +kernel) rfl kc_1 ?_
                                                  refine fs_iadd (p := 897) (by decide +kernel) rfl ?_
                                                  obtain ⟨v134, w135, h⟩ := fx_bd h
                                                  refine fs_iaload_s (p := 898) (by decide +kernel) rfl w135 ?_
                                                  refine fs_aload_n_a (k := 0) (p := 899) (by decide +kernel) rfl rfl ?_
                                                  refine fs_iload_n (k := 3) (p := 900) (by decide +kernel) rfl rfl ?_
                                                  refine fs_iconst (n := 2) (p := 901) (by decide +kernel) rfl kc_2 ?_
                                                  refine fs_iadd (p := 902) (by decide +kernel) rfl ?_
                                                  obtain ⟨v136, w137, h⟩ := fx_bd h
                                                  refine fs_iaload_s (p := 903) (by decide +kernel) rfl w137 ?_
                                                  refine fs_aload_n_a (k := 0) (p := 904) (by decide +kernel) rfl rfl ?_
                                                  refine fs_iload_n (k := 3) (p := 905) (by decide +kernel) rfl rfl ?_
                                                  refine fs_iconst (n := 3) (p := 906) (by decide +kernel) rfl kc_3 ?_
                                                  refine fs_iadd (p := 907) (by decide +kernel) rfl ?_
                                                  obtain ⟨v138, w139, h⟩ := fx_bd h
                                                  refine fs_iaload_s (p := 908) (by decide +kernel) rfl w139 ?_
                                                  refine fs_aload_n_a (k := 0) (p := 909) (by decide +kernel) rfl rfl ?_
                                                  refine fs_iload_n (k := 3) (p := 910) (by decide +kernel) rfl rfl ?_
                                                  refine fs_iconst (n := 4) (p := 911) (by decide +kernel) rfl kc_4 ?_
                                                  refine fs_iadd (p := 912) (by decide +kernel) rfl ?_
                                                  obtain ⟨v140, w141, h⟩ := fx_bd h
                                                  refine fs_iaload_s (p := 913) (by decide +kernel) rfl w141 ?_
                                                  obtain ⟨q143, w142, h⟩ := fx_bd h
                                                  refine fs_callV (idx := 109) (mj := 199) (ci := 10) (na := 4) (mx := 6) (p := 916) (args := [.ref 215, .int v134, .int v136, .int v138, .int v140]) (rest := []) (al2 := [some (.ref 215), some (.int v134), some (.int v136), some (.int v138), some (.int v140), none]) (by decide +kernel) rfl (by decide +kernel) fo_215 rfl rfl rfl rfl rfl rfl rfl (by omega) (fun d' hd' => fe_199 (by omega) w142) rfl ?_
                                                  refine fs_pop2 (p := 917) (by decide +kernel) rfl rfl ?_
                                                  refine fs_goto (off := 204) (p := 1121) (by decide +kernel) (by decide +kernel) ?_
                                                  exact fe_236_1121 hd ih _ _ _ h
                                                · rw [if_neg c28] at h
                                                  by_cases c29 : (v4 &&& (31 : Int32)) = (22 : Int32)
                                                  · rw [if_pos c29] at h
                                                    refine fs_tsw_h (dflt := 1088) (lo := 0) (hi := 28) (offs := #[131, 194, 217, 240, 263, 306, 339, 372, 395, 408, 421, 464, 497, 530, 583, 626, 669, 712, 745, 778, 811, 834, 887, 920, 963, 986, 1009, 1032, 1065]) (x := (v4 &&& (31 : Int32))) (j := 22) (t := 920) (by decide +kernel) (by decide +kernel) (by decide) (c29.trans (by decide)) ?_
                                                    refine fs_aload_n (k := 1) (p := 921) (by decide +kernel) rfl rfl ?_
                                                    refine fs_aload_n_a (k := 0) (p := 922) (by decide +kernel) rfl rfl ?_
                                                    refine fs_iload_n (k := 3) (p := 923) (by decide +kernel) rfl rfl ?_
                                                    refine fs_iconst (n := 1) (p := 924) (by decide +kernel) rfl kc_1 ?_
                                                    refine fs_iadd (p := 925) (by decide +kernel) rfl ?_
                                                    obtain ⟨v106, w107, h⟩ := fx_bd h
                                                    refine fs_iaload_s (p := 926) (by decide +kernel) rfl w107 ?_
                                                    refine fs_aload_n_a (k := 0) (p := 927) (by decide +kernel) rfl rfl ?_
                                                    refine fs_iload_n (k := 3) (p := 928) (by decide +kernel) rfl rfl ?_
                                                    refine fs_iconst (n := 2) (p := 929) (by decide +kernel) rfl kc_2 ?_
                                                    refine fs_iadd (p := 930) (by decide +kernel) rfl ?_
                                                    obtain ⟨v109, w110, h⟩ := fx_bd h
                                                    refine fs_iaload_s (p := 931) (by decide +kernel) rfl w110 ?_
                                                    obtain ⟨q113, w112, h⟩ := fx_bd h
                                                    refine fs_callV (idx := 110) (mj := 107) (ci := 9) (na := 2) (mx := 6) (p := 934) (args := [.ref 0, .int v106, .int v109]) (rest := []) (al2 := [some (.ref 0), some (.int v106), some (.int v109), none, none, none]) (by decide +kernel) rfl (by decide +kernel) fo_0 rfl rfl rfl rfl rfl rfl rfl (by omega) (fun d' hd' => fe_107 (by omega) w112) rfl ?_
                                                    refine fs_pop (p := 935) (by decide +kernel) rfl rfl ?_
                                                    refine fs_aload_n (k := 2) (p := 936) (by decide +kernel) rfl rfl ?_
                                                    refine fs_aload_n_a (k := 0) (p := 937) (by decide +kernel) rfl rfl ?_
                                                    refine fs_iload_n (k := 3) (p := 938) (by decide +kernel) rfl rfl ?_
                                                    refine fs_iconst (n := 1) (p := 939) (by decide +kernel) rfl kc_1 ?_
                                                    refine fs_iadd (p := 940) (by decide +kernel) rfl ?_
                                                    obtain ⟨v114, w115, h⟩ := fx_bd h
                                                    refine fs_iaload_s (p := 941) (by decide +kernel) rfl w115 ?_
                                                    refine fs_aload_n_a (k := 0) (p := 942) (by decide +kernel) rfl rfl ?_
                                                    refine fs_iload_n (k := 3) (p := 943) (by decide +kernel) rfl rfl ?_
                                                    refine fs_iconst (n := 2) (p := 944) (by decide +kernel) rfl kc_2 ?_
                                                    refine fs_iadd (p := 945) (by decide +kernel) rfl ?_
                                                    obtain ⟨v116, w117, h⟩ := fx_bd h
                                                    refine fs_iaload_s (p := 946) (by decide +kernel) rfl w117 ?_
                                                    obtain ⟨q119, w118, h⟩ := fx_bd h
                                                    refine fs_callV (idx := 113) (mj := 201) (ci := 10) (na := 2) (mx := 6) (p := 949) (args := [.ref 215, .int v114, .int v116]) (rest := []) (al2 := [some (.ref 215), some (.int v114), some (.int v116), none, none, none]) (by decide +kernel) rfl (by decide +kernel) fo_215 rfl rfl rfl rfl rfl rfl rfl (by omega) (fun d' hd' => fe_201 (by omega) w118) rfl ?_
                                                    refine fs_pop (p := 950) (by decide +kernel) rfl rfl ?_
                                                    refine fs_goto (off := 171) (p := 1121) (by decide +kernel) (by decide +kernel) ?_
                                                    exact fe_236_1121 hd ih _ _ _ h
                                                  · rw [if_neg c29] at h
                                                    by_cases c30 : (v4 &&& (31 : Int32)) = (23 : Int32)
                                                    · rw [if_pos c30] at h
                                                      refine fs_tsw_h (dflt := 1088) (lo := 0) (hi := 28) (offs := #[131, 194, 217, 240, 263, 306, 339, 372, 395, 408, 421, 464, 497, 530, 583, 626, 669, 712, 745, 778, 811, 834, 887, 920, 963, 986, 1009, 1032, 1065]) (x := (v4 &&& (31 : Int32))) (j := 23) (t := 953) (by decide +kernel) (by decide +kernel) (by decide) (c30.trans (by decide)) ?_
                                                      refine fs_aload_n (k := 1) (p := 954) (by decide +kernel) rfl rfl ?_
                                                      refine fs_aload_n_a (k := 0) (p := 955) (by decide +kernel) rfl rfl ?_
                                                      refine fs_iload_n (k := 3) (p := 956) (by decide +kernel) rfl rfl ?_
                                                      refine fs_iconst (n := 1) (p := 957) (by decide +kernel) rfl kc_1 ?_
                                                      refine fs_iadd (p := 958) (by decide +kernel) rfl ?_
                                                      obtain ⟨v87, w88, h⟩ := fx_bd h
                                                      refine fs_iaload_s (p := 959) (by decide +kernel) rfl w88 ?_
                                                      refine fs_aload_n_a (k := 0) (p := 960) (by decide +kernel) rfl rfl ?_
                                                      refine fs_iload_n (k := 3) (p := 961) (by decide +kernel) rfl rfl ?_
                                                      refine fs_iconst (n := 2) (p := 962) (by decide +kernel) rfl kc_2 ?_
                                                      refine fs_iadd (p := 963) (by decide +kernel) rfl ?_
                                                      obtain ⟨v90, w91, h⟩ := fx_bd h
                                                      refine fs_iaload_s (p := 964) (by decide +kernel) rfl w91 ?_
                                                      refine fs_aload_n_a (k := 0) (p := 965) (by decide +kernel) rfl rfl ?_
                                                      refine fs_iload_n (k := 3) (p := 966) (by decide +kernel) rfl rfl ?_
                                                      refine fs_iconst (n := 3) (p := 967) (by decide +kernel) rfl kc_3 ?_
                                                      refine fs_iadd (p := 968) (by decide +kernel) rfl ?_
                                                      obtain ⟨v93, w94, h⟩ := fx_bd h
                                                      refine fs_iaload_s (p := 969) (by decide +kernel) rfl w94 ?_
                                                      obtain ⟨q97, w96, h⟩ := fx_bd h
                                                      refine fs_callV (idx := 114) (mj := 108) (ci := 9) (na := 3) (mx := 8) (p := 972) (args := [.ref 0, .int v87, .int v90, .int v93]) (rest := []) (al2 := [some (.ref 0), some (.int v87), some (.int v90), some (.int v93), none, none, none, none]) (by decide +kernel) rfl (by decide +kernel) fo_0 rfl rfl rfl rfl rfl rfl rfl (by omega) (fun d' hd' => fe_108 (by omega) w96) rfl ?_
                                                      refine fs_pop2 (p := 973) (by decide +kernel) rfl rfl ?_
                                                      refine fs_aload_n (k := 2) (p := 974) (by decide +kernel) rfl rfl ?_
                                                      refine fs_aload_n_a (k := 0) (p := 975) (by decide +kernel) rfl rfl ?_
                                                      refine fs_iload_n (k := 3) (p := 976) (by decide +kernel) rfl rfl ?_
                                                      refine fs_iconst (n := 1) (p := 977) (by decide +kernel) rfl kc_1 ?_
                                                      refine fs_iadd (p := 978) (by decide +kernel) rfl ?_
                                                      obtain ⟨v98, w99, h⟩ := fx_bd h
                                                      refine fs_iaload_s (p := 979) (by decide +kernel) rfl w99 ?_
                                                      refine fs_aload_n_a (k := 0) (p := 980) (by decide +kernel) rfl rfl ?_
                                                      refine fs_iload_n (k := 3) (p := 981) (by decide +kernel) rfl rfl ?_
                                                      refine fs_iconst (n := 2) (p := 982) (by decide +kernel) rfl kc_2 ?_
                                                      refine fs_iadd (p := 983) (by decide +kernel) rfl ?_
                                                      obtain ⟨v100, w101, h⟩ := fx_bd h
                                                      refine fs_iaload_s (p := 984) (by decide +kernel) rfl w101 ?_
                                                      refine fs_aload_n_a (k := 0) (p := 985) (by decide +kernel) rfl rfl ?_
                                                      refine fs_iload_n (k := 3) (p := 986) (by decide +kernel) rfl rfl ?_
                                                      refine fs_iconst (n := 3) (p := 987) (by decide +kernel) rfl kc_3 ?_
                                                      refine fs_iadd (p := 988) (by decide +kernel) rfl ?_
                                                      obtain ⟨v102, w103, h⟩ := fx_bd h
                                                      refine fs_iaload_s (p := 989) (by decide +kernel) rfl w103 ?_
                                                      obtain ⟨q105, w104, h⟩ := fx_bd h
                                                      refine fs_callV (idx := 117) (mj := 203) (ci := 10) (na := 3) (mx := 6) (p := 992) (args := [.ref 215, .int v98, .int v100, .int v102]) (rest := []) (al2 := [some (.ref 215), some (.int v98), some (.int v100), some (.int v102), none, none]) (by decide +kernel) rfl (by decide +kernel) fo_215 rfl rfl rfl rfl rfl rfl rfl (by omega) (fun d' hd' => fe_203 (by omega) w104) rfl ?_
                                                      refine fs_pop2 (p := 993) (by decide +kernel) rfl rfl ?_
                                                      refine fs_goto (off := 128) (p := 1121) (by decide +kernel) (by decide +kernel) ?_
                                                      exact fe_236_1121 hd ih _ _ _ h
                                                    · rw [if_neg c30] at h
                                                      by_cases c31 : (v4 &&& (31 : Int32)) = (24 : Int32)
                                                      · rw [if_pos c31] at h
                                                        refine fs_tsw_h (dflt := 1088) (lo := 0) (hi := 28) (offs := #[131, 194, 217, 240, 263, 306, 339, 372, 395, 408, 421, 464, 497, 530, 583, 626, 669, 712, 745, 778, 811, 834, 887, 920, 963, 986, 1009, 1032, 1065]) (x := (v4 &&& (31 : Int32))) (j := 24) (t := 996) (by decide +kernel) (by decide +kernel) (by decide) (c31.trans (by decide)) ?_
                                                        refine fs_aload_n (k := 1) (p := 997) (by decide +kernel) rfl rfl ?_
                                                        refine fs_aload_n_a (k := 0) (p := 998) (by decide +kernel) rfl rfl ?_
                                                        refine fs_iload_n (k := 3) (p := 999) (by decide +kernel) rfl rfl ?_
                                                        refine fs_iconst (n := 1) (p := 1000) (by decide +kernel) rfl kc_1 ?_
                                                        refine fs_iadd (p := 1001) (by decide +kernel) rfl ?_
                                                        obtain ⟨v78, w79, h⟩ := fx_bd h
                                                        refine fs_iaload_s (p := 1002) (by decide +kernel) rfl w79 ?_
                                                        obtain ⟨q82, w81, h⟩ := fx_bd h
                                                        refine fs_callV (idx := 118) (mj := 109) (ci := 9) (na := 1) (mx := 7) (p := 1005) (args := [.ref 0, .int v78]) (rest := []) (al2 := [some (.ref 0), some (.int v78), none, none, none, none, none]) (by decide +kernel) rfl (by decide +kernel) fo_0 rfl rfl rfl rfl rfl rfl rfl (by omega) (fun d' hd' => fe_109 (by omega) w81) rfl ?_
                                                        refine fs_pop2 (p := 1006) (by decide +kernel) rfl rfl ?_
                                                        refine fs_aload_n (k := 2) (p := 1007) (by decide +kernel) rfl rfl ?_
                                                        refine fs_aload_n_a (k := 0) (p := 1008) (by decide +kernel) rfl rfl ?_
                                                        refine fs_iload_n (k := 3) (p := 1009) (by decide +kernel) rfl rfl ?_
                                                        refine fs_iconst (n := 1) (p := 1010) (by decide +kernel) rfl kc_1 ?_
                                                        refine fs_iadd (p := 1011) (by decide +kernel) rfl ?_
                                                        obtain ⟨v83, w84, h⟩ := fx_bd h
                                                        refine fs_iaload_s (p := 1012) (by decide +kernel) rfl w84 ?_
                                                        obtain ⟨q86, w85, h⟩ := fx_bd h
                                                        refine fs_callV (idx := 122) (mj := 204) (ci := 10) (na := 1) (mx := 8) (p := 1015) (args := [.ref 215, .int v83]) (rest := []) (al2 := [some (.ref 215), some (.int v83), none, none, none, none, none, none]) (by decide +kernel) rfl (by decide +kernel) fo_215 rfl rfl rfl rfl rfl rfl rfl (by omega) (fun d' hd' => fe_204 (by omega) w85) rfl ?_
                                                        refine fs_pop2 (p := 1016) (by decide +kernel) rfl rfl ?_
                                                        refine fs_goto (off := 105) (p := 1121) (by decide +kernel) (by decide +kernel) ?_
                                                        exact fe_236_1121 hd ih _ _ _ h
                                                      · rw [if_neg c31] at h
                                                        by_cases c32 : (v4 &&& (31 : Int32)) = (25 : Int32)
                                                        · rw [if_pos c32] at h
                                                          refine fs_tsw_h (dflt := 1088) (lo := 0) (hi := 28) (offs := #[131, 194, 217, 240, 263, 306, 339, 372, 395, 408, 421, 464, 497, 530, 583, 626, 669, 712, 745, 778, 811, 834, 887, 920, 963, 986, 1009, 1032, 1065]) (x := (v4 &&& (31 : Int32))) (j := 25) (t := 1019) (by decide +kernel) (by decide +kernel) (by decide) (c32.trans (by decide)) ?_
                                                          refine fs_aload_n (k := 1) (p := 1020) (by decide +kernel) rfl rfl ?_
                                                          refine fs_aload_n_a (k := 0) (p := 1021) (by decide +kernel) rfl rfl ?_
                                                          refine fs_iload_n (k := 3) (p := 1022) (by decide +kernel) rfl rfl ?_
                                                          refine fs_iconst (n := 1) (p := 1023) (by decide +kernel) rfl kc_1 ?_
                                                          refine fs_iadd (p := 1024) (by decide +kernel) rfl ?_
                                                          obtain ⟨v69, w70, h⟩ := fx_bd h
                                                          refine fs_iaload_s (p := 1025) (by decide +kernel) rfl w70 ?_
                                                          obtain ⟨q73, w72, h⟩ := fx_bd h
                                                          refine fs_callV (idx := 123) (mj := 110) (ci := 9) (na := 1) (mx := 4) (p := 1028) (args := [.ref 0, .int v69]) (rest := []) (al2 := [some (.ref 0), some (.int v69), none, none]) (by decide +kernel) rfl (by decide +kernel) fo_0 rfl rfl rfl rfl rfl rfl rfl (by omega) (fun d' hd' => fe_110 (by omega) w72) rfl ?_
                                                          refine fs_pop (p := 1029) (by decide +kernel) rfl rfl ?_
                                                          refine fs_aload_n (k := 2) (p := 1030) (by decide +kernel) rfl rfl ?_
                                                          refine fs_aload_n_a (k := 0) (p := 1031) (by decide +kernel) rfl rfl ?_
                                                          refine fs_iload_n (k := 3) (p := 1032) (by decide +kernel) rfl rfl ?_
                                                          refine fs_iconst (n := 1) (p := 1033) (by decide +kernel) rfl kc_1 ?_
                                                          refine fs_iadd (p := 1034) (by decide +kernel) rfl ?_
                                                          obtain ⟨v74, w75, h⟩ := fx_bd h
                                                          refine fs_iaload_s (p := 1035) (by decide +kernel) rfl w75 ?_
                                                          obtain ⟨q77, w76, h⟩ := fx_bd h
                                                          refine fs_callV (idx := 126) (mj := 223) (ci := 10) (na := 1) (mx := 4) (p := 1038) (args := [.ref 215, .int v74]) (rest := []) (al2 := [some (.ref 215), some (.int v74), none, none]) (by decide +kernel) rfl (by decide +kernel) fo_215 rfl rfl rfl rfl rfl rfl rfl (by omega) (fun d' hd' => fe_223 (by omega) w76) rfl ?_
                                                          refine fs_pop (p := 1039) (by decide +kernel) rfl rfl ?_
                                                          refine fs_goto (off := 82) (p := 1121) (by decide +kernel) (by decide +kernel) ?_
                                                          exact fe_236_1121 hd ih _ _ _ h
                                                        · rw [if_neg c32] at h
                                                          by_cases c33 : (v4 &&& (31 : Int32)) = (26 : Int32)
                                                          · rw [if_pos c33] at h
                                                            refine fs_tsw_h (dflt := 1088) (lo := 0) (hi := 28) (offs := #[131, 194, 217, 240, 263, 306, 339, 372, 395, 408, 421, 464, 497, 530, 583, 626, 669, 712, 745, 778, 811, 834, 887, 920, 963, 986, 1009, 1032, 1065]) (x := (v4 &&& (31 : Int32))) (j := 26) (t := 1042) (by decide +kernel) (by decide +kernel) (by decide) (c33.trans (by decide)) ?_
                                                            refine fs_aload_n (k := 1) (p := 1043) (by decide +kernel) rfl rfl ?_
                                                            refine fs_aload_n_a (k := 0) (p := 1044) (by decide +kernel) rfl rfl ?_
                                                            refine fs_iload_n (k := 3) (p := 1045) (by decide +kernel) rfl rfl ?_
                                                            refine fs_iconst (n := 1) (p := 1046) (by decide +kernel) rfl kc_1 ?_
                                                            refine fs_iadd (p := 1047) (by decide +kernel) rfl ?_
                                                            obtain ⟨v60, w61, h⟩ := fx_bd h
                                                            refine fs_iaload_s (p := 1048) (by decide +kernel) rfl w61 ?_
                                                            obtain ⟨q64, w63, h⟩ := fx_bd h
                                                            refine fs_callV (idx := 127) (mj := 111) (ci := 9) (na := 1) (mx := 2) (p := 1051) (args := [.ref 0, .int v60]) (rest := []) (al2 := [some (.ref 0), some (.int v60)]) (by decide +kernel) rfl (by decide +kernel) fo_0 rfl rfl rfl rfl rfl rfl rfl (by omega) (fun d' hd' => fe_111 (by omega) w63) rfl ?_
                                                            refine fs_pop (p := 1052) (by decide +kernel) rfl rfl ?_
                                                            refine fs_aload_n (k := 2) (p := 1053) (by decide +kernel) rfl rfl ?_
                                                            refine fs_aload_n_a (k := 0) (p := 1054) (by decide +kernel) rfl rfl ?_
                                                            refine fs_iload_n (k := 3) (p := 1055) (by decide +kernel) rfl rfl ?_
                                                            refine fs_iconst (n := 1) (p := 1056) (by decide +kernel) rfl kc_1 ?_
                                                            refine fs_iadd (p := 1057) (by decide +kernel) rfl ?_
                                                            obtain ⟨v65, w66, h⟩ := fx_bd h
                                                            refine fs_iaload_s (p := 1058) (by decide +kernel) rfl w66 ?_
                                                            obtain ⟨q68, w67, h⟩ := fx_bd h
                                                            refine fs_callV (idx := 130) (mj := 226) (ci := 10) (na := 1) (mx := 2) (p := 1061) (args := [.ref 215, .int v65]) (rest := []) (al2 := [some (.ref 215), some (.int v65)]) (by decide +kernel) rfl (by decide +kernel) fo_215 rfl rfl rfl rfl rfl rfl rfl (by omega) (fun d' hd' => fe_226 (by omega) w67) rfl ?_
                                                            refine fs_pop (p := 1062) (by decide +kernel) rfl rfl ?_
                                                            refine fs_goto (off := 59) (p := 1121) (by decide +kernel) (by decide +kernel) ?_
                                                            exact fe_236_1121 hd ih _ _ _ h
                                                          · rw [if_neg c33] at h
                                                            by_cases c34 : (v4 &&& (31 : Int32)) = (27 : Int32)
                                                            · rw [if_pos c34] at h
                                                              refine fs_tsw_h (dflt := 1088) (lo := 0) (hi := 28) (offs := #[131, 194, 217, 240, 263, 306, 339, 372, 395, 408, 421, 464, 497, 530, 583, 626, 669, 712, 745, 778, 811, 834, 887, 920, 963, 986, 1009, 1032, 1065]) (x := (v4 &&& (31 : Int32))) (j := 27) (t := 1065) (by decide +kernel) (by decide +kernel) (by decide) (c34.trans (by decide)) ?_
                                                              refine fs_aload_n (k := 1) (p := 1066) (by decide +kernel) rfl rfl ?_
                                                              refine fs_aload_n_a (k := 0) (p := 1067) (by decide +kernel) rfl rfl ?_
                                                              refine fs_iload_n (k := 3) (p := 1068) (by decide +kernel) rfl rfl ?_
                                                              refine fs_iconst (n := 1) (p := 1069) (by decide +kernel) rfl kc_1 ?_
                                                              refine fs_iadd (p := 1070) (by decide +kernel) rfl ?_
                                                              obtain ⟨v46, w47, h⟩ := fx_bd h
                                                              refine fs_iaload_s (p := 1071) (by decide +kernel) rfl w47 ?_
                                                              refine fs_aload_n_a (k := 0) (p := 1072) (by decide +kernel) rfl rfl ?_
                                                              refine fs_iload_n (k := 3) (p := 1073) (by decide +kernel) rfl rfl ?_
                                                              refine fs_iconst (n := 2) (p := 1074) (by decide +kernel) rfl kc_2 ?_
                                                              refine fs_iadd (p := 1075) (by decide +kernel) rfl ?_
                                                              obtain ⟨v49, w50, h⟩ := fx_bd h
                                                              refine fs_iaload_s (p := 1076) (by decide +kernel) rfl w50 ?_
                                                              obtain ⟨q53, w52, h⟩ := fx_bd h
                                                              refine fs_callV (idx := 131) (mj := 112) (ci := 9) (na := 2) (mx := 3) (p := 1079) (args := [.ref 0, .int v46, .int v49]) (rest := []) (al2 := [some (.ref 0), some (.int v46), some (.int v49)]) (by decide +kernel) rfl (by decide +kernel) fo_0 rfl rfl rfl rfl rfl rfl rfl (by omega) (fun d' hd' => fe_112 (by omega) w52) rfl ?_
                                                              refine fs_pop (p := 1080) (by decide +kernel) rfl rfl ?_
                                                              refine fs_aload_n (k := 2) (p := 1081) (by decide +kernel) rfl rfl ?_
                                                              refine fs_aload_n_a (k := 0) (p := 1082) (by decide +kernel) rfl rfl ?_
                                                              refine fs_iload_n (k := 3) (p := 1083) (by decide +kernel) rfl rfl ?_
                                                              refine fs_iconst (n := 1) (p := 1084) (by decide +kernel) rfl kc_1 ?_
                                                              refine fs_iadd (p := 1085) (by decide +kernel) rfl ?_
                                                              obtain ⟨v54, w55, h⟩ := fx_bd h
                                                              refine fs_iaload_s (p := 1086) (by decide +kernel) rfl w55 ?_
                                                              refine fs_aload_n_a (k := 0) (p := 1087) (by decide +kernel) rfl rfl ?_
                                                              refine fs_iload_n (k := 3) (p := 1088) (by decide +kernel) rfl rfl ?_
                                                              refine fs_iconst (n := 2) (p := 1089) (by decide +kernel) rfl kc_2 ?_
                                                              refine fs_iadd (p := 1090) (by decide +kernel) rfl ?_
                                                              obtain ⟨v56, w57, h⟩ := fx_bd h
                                                              refine fs_iaload_s (p := 1091) (by decide +kernel) rfl w57 ?_
                                                              obtain ⟨q59, w58, h⟩ := fx_bd h
                                                              refine fs_callV (idx := 134) (mj := 227) (ci := 10) (na := 2) (mx := 3) (p := 1094) (args := [.ref 215, .int v54, .int v56]) (rest := []) (al2 := [some (.ref 215), some (.int v54), some (.int v56)]) (by decide +kernel) rfl (by decide +kernel) fo_215 rfl rfl rfl rfl rfl rfl rfl (by omega) (fun d' hd' => fe_227 (by omega) w58) rfl ?_
                                                              refine fs_pop (p := 1095) (by decide +kernel) rfl rfl ?_
                                                              refine fs_goto (off := 26) (p := 1121) (by decide +kernel) (by decide +kernel) ?_
                                                              exact fe_236_1121 hd ih _ _ _ h
                                                            · rw [if_neg c34] at h
                                                              by_cases c35 : (v4 &&& (31 : Int32)) = (28 : Int32)
                                                              · rw [if_pos c35] at h
                                                                refine fs_tsw_h (dflt := 1088) (lo := 0) (hi := 28) (offs := #[131, 194, 217, 240, 263, 306, 339, 372, 395, 408, 421, 464, 497, 530, 583, 626, 669, 712, 745, 778, 811, 834, 887, 920, 963, 986, 1009, 1032, 1065]) (x := (v4 &&& (31 : Int32))) (j := 28) (t := 1098) (by decide +kernel) (by decide +kernel) (by decide) (c35.trans (by decide)) ?_
                                                                refine fs_aload_n (k := 1) (p := 1099) (by decide +kernel) rfl rfl ?_
                                                                refine fs_aload_n_a (k := 0) (p := 1100) (by decide +kernel) rfl rfl ?_
                                                                refine fs_iload_n (k := 3) (p := 1101) (by decide +kernel) rfl rfl ?_
                                                                refine fs_iconst (n := 1) (p := 1102) (by decide +kernel) rfl kc_1 ?_
                                                                refine fs_iadd (p := 1103) (by decide +kernel) rfl ?_
                                                                obtain ⟨v37, w38, h⟩ := fx_bd h
                                                                refine fs_iaload_s (p := 1104) (by decide +kernel) rfl w38 ?_
                                                                obtain ⟨q41, w40, h⟩ := fx_bd h
                                                                refine fs_callV (idx := 135) (mj := 113) (ci := 9) (na := 1) (mx := 2) (p := 1107) (args := [.ref 0, .int v37]) (rest := []) (al2 := [some (.ref 0), some (.int v37)]) (by decide +kernel) rfl (by decide +kernel) fo_0 rfl rfl rfl rfl rfl rfl rfl (by omega) (fun d' hd' => fe_113 (by omega) w40) rfl ?_
                                                                refine fs_pop (p := 1108) (by decide +kernel) rfl rfl ?_
                                                                refine fs_aload_n (k := 2) (p := 1109) (by decide +kernel) rfl rfl ?_
                                                                refine fs_aload_n_a (k := 0) (p := 1110) (by decide +kernel) rfl rfl ?_
                                                                refine fs_iload_n (k := 3) (p := 1111) (by decide +kernel) rfl rfl ?_
                                                                refine fs_iconst (n := 1) (p := 1112) (by decide +kernel) rfl kc_1 ?_
                                                                refine fs_iadd (p := 1113) (by decide +kernel) rfl ?_
                                                                obtain ⟨v42, w43, h⟩ := fx_bd h
                                                                refine fs_iaload_s (p := 1114) (by decide +kernel) rfl w43 ?_
                                                                obtain ⟨q45, w44, h⟩ := fx_bd h
                                                                refine fs_callV (idx := 138) (mj := 228) (ci := 10) (na := 1) (mx := 2) (p := 1117) (args := [.ref 215, .int v42]) (rest := []) (al2 := [some (.ref 215), some (.int v42)]) (by decide +kernel) rfl (by decide +kernel) fo_215 rfl rfl rfl rfl rfl rfl rfl (by omega) (fun d' hd' => fe_228 (by omega) w44) rfl ?_
                                                                refine fs_pop (p := 1118) (by decide +kernel) rfl rfl ?_
                                                                refine fs_goto (off := 3) (p := 1121) (by decide +kernel) (by decide +kernel) ?_
                                                                exact fe_236_1121 hd ih _ _ _ h
                                                              · rw [if_neg c35] at h
                                                                refine fs_tsw_d (dflt := 1088) (lo := 0) (hi := 28) (offs := #[131, 194, 217, 240, 263, 306, 339, 372, 395, 408, 421, 464, 497, 530, 583, 626, 669, 712, 745, 778, 811, 834, 887, 920, 963, 986, 1009, 1032, 1065]) (x := (v4 &&& (31 : Int32))) (t := 1121) (by decide +kernel) (by decide +kernel) (by decide) (by decide) (fun j hj => by match j, hj with | 0, _ => exact c7 | 1, _ => exact c8 | 2, _ => exact c9 | 3, _ => exact c10 | 4, _ => exact c11 | 5, _ => exact c12 | 6, _ => exact c13 | 7, _ => exact c14 | 8, _ => exact c15 | 9, _ => exact c16 | 10, _ => exact c17 | 11, _ => exact c18 | 12, _ => exact c19 | 13, _ => exact c20 | 14, _ => exact c21 | 15, _ => exact c22 | 16, _ => exact c23 | 17, _ => exact c24 | 18, _ => exact c25 | 19, _ => exact c26 | 20, _ => exact c27 | 21, _ => exact c28 | 22, _ => exact c29 | 23, _ => exact c30 | 24, _ => exact c31 | 25, _ => exact c32 | 26, _ => exact c33 | 27, _ => exact c34 | 28, _ => exact c35 | n + 29, hj => exact absurd hj (by show ¬ n + 29 < 29; omega)) ?_
                                                                exact fe_236_1121 hd ih _ _ _ h
