/-! the law -/
theorem mx_236 : iv_mx 236 = 4 := by decide +kernel
theorem rt_236 : iv_rt 236 = some .boolean := by decide +kernel
def fm_236_1121 (L : Nat) (xs : Nat → Int32) (k_18 : Int32 → fx_S → Option (Bool × fx_S)) (x3 : Int32) (σ : fx_S) : Option (Bool × fx_S) :=
  k_18 (x3 + (6 : Int32)) σ
theorem fe_236_1121 {d : Nat} (hd : 33 ≤ d) {L : Nat} {xs : Nat → Int32} {k_18 : Int32 → fx_S → Option (Bool × fx_S)} (hk_18 : ∀ (x3 : Int32) (σ : fx_S) (q : Bool × fx_S), k_18 x3 σ = some q → fx_E (some (L, xs)) 236 d 18 [some (.retAddr 0), some (.ref 0), some (.ref 215), some (.int x3)] [] σ (some (.int (fx_b q.1))) q.2) (x3 : Int32) (σ : fx_S) (q : Bool × fx_S) (h : fm_236_1121 L xs k_18  x3 σ = some q) : fx_E (some (L, xs)) 236 d 1121 [some (.retAddr 0), some (.ref 0), some (.ref 215), some (.int x3)] [] σ (some (.int (fx_b q.1))) q.2 := by
  unfold fm_236_1121 at h
  refine fs_iinc (k := 3) (n := 6) (p := 1124) (M := 4) (al' := [some (.retAddr 0), some (.ref 0), some (.ref 215), some (.int (x3 + (6 : Int32)))]) (by decide +kernel) rfl kc_6 mx_236 rfl rfl rfl ?_
  refine fs_goto (off := -1106) (p := 18) (by decide +kernel) (by decide +kernel) ?_
  exact hk_18 _ _ _ h
def fm_236_18 (L : Nat) (xs : Nat → Int32) : Nat → Int32 → fx_S → Option (Bool × fx_S)
  | 0, _, _ => none
  | n + 1, x3, σ =>
    if ((Int32.ofNat L) - (6 : Int32)) < x3 then (
      some (true, σ)) else (
      (fx_lds L xs x3).bind fun v4 =>
      if (v4 &&& (31 : Int32)) = (0 : Int32) then (
        (fx_lds L xs (x3 + (1 : Int32))).bind fun v417 =>
        (fx_lds L xs (x3 + (2 : Int32))).bind fun v420 =>
        (fx_lds L xs (x3 + (3 : Int32))).bind fun v423 =>
        (fx_lds L xs (x3 + (4 : Int32))).bind fun v426 =>
        (fx_lds L xs (x3 + (5 : Int32))).bind fun v429 =>
        (fm_85 v417 v420 v423 v426 v429 σ).bind fun q433 =>
        (fx_lds L xs (x3 + (1 : Int32))).bind fun v434 =>
        (fx_lds L xs (x3 + (2 : Int32))).bind fun v436 =>
        (fx_lds L xs (x3 + (3 : Int32))).bind fun v438 =>
        (fx_lds L xs (x3 + (4 : Int32))).bind fun v440 =>
        (fx_lds L xs (x3 + (5 : Int32))).bind fun v442 =>
        (fm_134 v434 v436 v438 v440 v442 q433.2).bind fun q445 =>
        fm_236_1121 L xs (fm_236_18 L xs n) x3 q445.2) else (
        if (v4 &&& (31 : Int32)) = (1 : Int32) then (
          (fx_lds L xs (x3 + (1 : Int32))).bind fun v408 =>
          (fm_86 v408 σ).bind fun q412 =>
          (fx_lds L xs (x3 + (1 : Int32))).bind fun v413 =>
          (fm_136 v413 q412.2).bind fun q416 =>
          fm_236_1121 L xs (fm_236_18 L xs n) x3 q416.2) else (
          if (v4 &&& (31 : Int32)) = (2 : Int32) then (
            (fx_lds L xs (x3 + (1 : Int32))).bind fun v399 =>
            (fm_87 v399 σ).bind fun q403 =>
            (fx_lds L xs (x3 + (1 : Int32))).bind fun v404 =>
            (fm_145 v404 q403.2).bind fun q407 =>
            fm_236_1121 L xs (fm_236_18 L xs n) x3 q407.2) else (
            if (v4 &&& (31 : Int32)) = (3 : Int32) then (
              (fx_lds L xs (x3 + (1 : Int32))).bind fun v390 =>
              (fm_88 v390 σ).bind fun q394 =>
              (fx_lds L xs (x3 + (1 : Int32))).bind fun v395 =>
              (fm_149 v395 q394.2).bind fun q398 =>
              fm_236_1121 L xs (fm_236_18 L xs n) x3 q398.2) else (
              if (v4 &&& (31 : Int32)) = (4 : Int32) then (
                (fx_lds L xs (x3 + (1 : Int32))).bind fun v371 =>
                (fx_lds L xs (x3 + (2 : Int32))).bind fun v374 =>
                (fx_lds L xs (x3 + (3 : Int32))).bind fun v377 =>
                (fm_89 v371 v374 v377 σ).bind fun q381 =>
                (fx_lds L xs (x3 + (1 : Int32))).bind fun v382 =>
                (fx_lds L xs (x3 + (2 : Int32))).bind fun v384 =>
                (fx_lds L xs (x3 + (3 : Int32))).bind fun v386 =>
                (fm_214 v382 v384 v386 q381.2).bind fun q389 =>
                fm_236_1121 L xs (fm_236_18 L xs n) x3 q389.2) else (
                if (v4 &&& (31 : Int32)) = (5 : Int32) then (
                  (fx_lds L xs (x3 + (1 : Int32))).bind fun v357 =>
                  (fx_lds L xs (x3 + (2 : Int32))).bind fun v360 =>
                  (fm_90 v357 v360 σ).bind fun q364 =>
                  (fx_lds L xs (x3 + (1 : Int32))).bind fun v365 =>
                  (fx_lds L xs (x3 + (2 : Int32))).bind fun v367 =>
                  (fm_215 v365 v367 q364.2).bind fun q370 =>
                  fm_236_1121 L xs (fm_236_18 L xs n) x3 q370.2) else (
                  if (v4 &&& (31 : Int32)) = (6 : Int32) then (
                    (fx_lds L xs (x3 + (1 : Int32))).bind fun v343 =>
                    (fx_lds L xs (x3 + (2 : Int32))).bind fun v346 =>
                    (fm_91 v343 v346 σ).bind fun q350 =>
                    (fx_lds L xs (x3 + (1 : Int32))).bind fun v351 =>
                    (fx_lds L xs (x3 + (2 : Int32))).bind fun v353 =>
                    (fm_216 v351 v353 q350.2).bind fun q356 =>
                    fm_236_1121 L xs (fm_236_18 L xs n) x3 q356.2) else (
                    if (v4 &&& (31 : Int32)) = (7 : Int32) then (
                      (fx_lds L xs (x3 + (1 : Int32))).bind fun v334 =>
                      (fm_92 v334 σ).bind fun q338 =>
                      (fx_lds L xs (x3 + (1 : Int32))).bind fun v339 =>
                      (fm_212 v339 q338.2).bind fun q342 =>
                      fm_236_1121 L xs (fm_236_18 L xs n) x3 q342.2) else (
                      if (v4 &&& (31 : Int32)) = (8 : Int32) then (
                        (fm_93 σ).bind fun q331 =>
                        (fm_217 q331.2).bind fun q333 =>
                        fm_236_1121 L xs (fm_236_18 L xs n) x3 q333.2) else (
                        if (v4 &&& (31 : Int32)) = (9 : Int32) then (
                          (fm_94 σ).bind fun q327 =>
                          (fm_133 q327.2).bind fun q329 =>
                          fm_236_1121 L xs (fm_236_18 L xs n) x3 q329.2) else (
                          if (v4 &&& (31 : Int32)) = (10 : Int32) then (
                            (fx_lds L xs (x3 + (1 : Int32))).bind fun v307 =>
                            (fx_lds L xs (x3 + (2 : Int32))).bind fun v310 =>
                            (fx_lds L xs (x3 + (3 : Int32))).bind fun v313 =>
                            (fm_95 v307 v310 v313 σ).bind fun q317 =>
                            (fx_lds L xs (x3 + (1 : Int32))).bind fun v318 =>
                            (fx_lds L xs (x3 + (2 : Int32))).bind fun v320 =>
                            (fx_lds L xs (x3 + (3 : Int32))).bind fun v322 =>
                            (fm_218 v318 v320 v322 q317.2).bind fun q325 =>
                            fm_236_1121 L xs (fm_236_18 L xs n) x3 q325.2) else (
                            if (v4 &&& (31 : Int32)) = (11 : Int32) then (
                              (fx_lds L xs (x3 + (1 : Int32))).bind fun v293 =>
                              (fx_lds L xs (x3 + (2 : Int32))).bind fun v296 =>
                              (fm_96 v293 v296 σ).bind fun q300 =>
                              (fx_lds L xs (x3 + (1 : Int32))).bind fun v301 =>
                              (fx_lds L xs (x3 + (2 : Int32))).bind fun v303 =>
                              (fm_220 v301 v303 q300.2).bind fun q306 =>
                              fm_236_1121 L xs (fm_236_18 L xs n) x3 q306.2) else (
                              if (v4 &&& (31 : Int32)) = (12 : Int32) then (
                                (fx_lds L xs (x3 + (1 : Int32))).bind fun v279 =>
                                (fx_lds L xs (x3 + (2 : Int32))).bind fun v282 =>
                                (fm_97 v279 v282 σ).bind fun q286 =>
                                (fx_lds L xs (x3 + (1 : Int32))).bind fun v287 =>
                                (fx_lds L xs (x3 + (2 : Int32))).bind fun v289 =>
                                (fm_179 v287 v289 q286.2).bind fun q292 =>
                                fm_236_1121 L xs (fm_236_18 L xs n) x3 q292.2) else (
                                if (v4 &&& (31 : Int32)) = (13 : Int32) then (
                                  (fx_lds L xs (x3 + (1 : Int32))).bind fun v255 =>
                                  (fx_lds L xs (x3 + (2 : Int32))).bind fun v258 =>
                                  (fx_lds L xs (x3 + (3 : Int32))).bind fun v261 =>
                                  (fx_lds L xs (x3 + (4 : Int32))).bind fun v264 =>
                                  (fm_98 v255 v258 v261 v264 σ).bind fun q268 =>
                                  (fx_lds L xs (x3 + (1 : Int32))).bind fun v269 =>
                                  (fx_lds L xs (x3 + (2 : Int32))).bind fun v271 =>
                                  (fx_lds L xs (x3 + (3 : Int32))).bind fun v273 =>
                                  (fx_lds L xs (x3 + (4 : Int32))).bind fun v275 =>
                                  (fm_195 v269 v271 v273 v275 q268.2).bind fun q278 =>
                                  fm_236_1121 L xs (fm_236_18 L xs n) x3 q278.2) else (
                                  if (v4 &&& (31 : Int32)) = (14 : Int32) then (
                                    (fx_lds L xs (x3 + (1 : Int32))).bind fun v236 =>
                                    (fx_lds L xs (x3 + (2 : Int32))).bind fun v239 =>
                                    (fx_lds L xs (x3 + (3 : Int32))).bind fun v242 =>
                                    (fm_99 v236 v239 v242 σ).bind fun q246 =>
                                    (fx_lds L xs (x3 + (1 : Int32))).bind fun v247 =>
                                    (fx_lds L xs (x3 + (2 : Int32))).bind fun v249 =>
                                    (fx_lds L xs (x3 + (3 : Int32))).bind fun v251 =>
                                    (fm_185 v247 v249 v251 q246.2).bind fun q254 =>
                                    fm_236_1121 L xs (fm_236_18 L xs n) x3 q254.2) else (
                                    if (v4 &&& (31 : Int32)) = (15 : Int32) then (
                                      (fx_lds L xs (x3 + (1 : Int32))).bind fun v217 =>
                                      (fx_lds L xs (x3 + (2 : Int32))).bind fun v220 =>
                                      (fx_lds L xs (x3 + (3 : Int32))).bind fun v223 =>
                                      (fm_100 v217 v220 v223 σ).bind fun q227 =>
                                      (fx_lds L xs (x3 + (1 : Int32))).bind fun v228 =>
                                      (fx_lds L xs (x3 + (2 : Int32))).bind fun v230 =>
                                      (fx_lds L xs (x3 + (3 : Int32))).bind fun v232 =>
                                      (fm_196 v228 v230 v232 q227.2).bind fun q235 =>
                                      fm_236_1121 L xs (fm_236_18 L xs n) x3 q235.2) else (
                                      if (v4 &&& (31 : Int32)) = (16 : Int32) then (
                                        (fx_lds L xs (x3 + (1 : Int32))).bind fun v198 =>
                                        (fx_lds L xs (x3 + (2 : Int32))).bind fun v201 =>
                                        (fx_lds L xs (x3 + (3 : Int32))).bind fun v204 =>
                                        (fm_101 v198 v201 v204 σ).bind fun q208 =>
                                        (fx_lds L xs (x3 + (1 : Int32))).bind fun v209 =>
                                        (fx_lds L xs (x3 + (2 : Int32))).bind fun v211 =>
                                        (fx_lds L xs (x3 + (3 : Int32))).bind fun v213 =>
                                        (fm_188 v209 v211 v213 q208.2).bind fun q216 =>
                                        fm_236_1121 L xs (fm_236_18 L xs n) x3 q216.2) else (
                                        if (v4 &&& (31 : Int32)) = (17 : Int32) then (
                                          (fx_lds L xs (x3 + (1 : Int32))).bind fun v184 =>
                                          (fx_lds L xs (x3 + (2 : Int32))).bind fun v187 =>
                                          (fm_102 v184 v187 σ).bind fun q191 =>
                                          (fx_lds L xs (x3 + (1 : Int32))).bind fun v192 =>
                                          (fx_lds L xs (x3 + (2 : Int32))).bind fun v194 =>
                                          (fm_210 v192 v194 q191.2).bind fun q197 =>
                                          fm_236_1121 L xs (fm_236_18 L xs n) x3 q197.2) else (
                                          if (v4 &&& (31 : Int32)) = (18 : Int32) then (
                                            (fx_lds L xs (x3 + (1 : Int32))).bind fun v170 =>
                                            (fx_lds L xs (x3 + (2 : Int32))).bind fun v173 =>
                                            (fm_103 v170 v173 σ).bind fun q177 =>
                                            (fx_lds L xs (x3 + (1 : Int32))).bind fun v178 =>
                                            (fx_lds L xs (x3 + (2 : Int32))).bind fun v180 =>
                                            (fm_189 v178 v180 q177.2).bind fun q183 =>
                                            fm_236_1121 L xs (fm_236_18 L xs n) x3 q183.2) else (
                                            if (v4 &&& (31 : Int32)) = (19 : Int32) then (
                                              (fx_lds L xs (x3 + (1 : Int32))).bind fun v156 =>
                                              (fx_lds L xs (x3 + (2 : Int32))).bind fun v159 =>
                                              (fm_104 v156 v159 σ).bind fun q163 =>
                                              (fx_lds L xs (x3 + (1 : Int32))).bind fun v164 =>
                                              (fx_lds L xs (x3 + (2 : Int32))).bind fun v166 =>
                                              (fm_192 v164 v166 q163.2).bind fun q169 =>
                                              fm_236_1121 L xs (fm_236_18 L xs n) x3 q169.2) else (
                                              if (v4 &&& (31 : Int32)) = (20 : Int32) then (
                                                (fx_lds L xs (x3 + (1 : Int32))).bind fun v147 =>
                                                (fm_105 v147 σ).bind fun q151 =>
                                                (fx_lds L xs (x3 + (1 : Int32))).bind fun v152 =>
                                                (fm_193 v152 q151.2).bind fun q155 =>
                                                fm_236_1121 L xs (fm_236_18 L xs n) x3 q155.2) else (
                                                if (v4 &&& (31 : Int32)) = (21 : Int32) then (
                                                  (fx_lds L xs (x3 + (1 : Int32))).bind fun v123 =>
                                                  (fx_lds L xs (x3 + (2 : Int32))).bind fun v126 =>
                                                  (fx_lds L xs (x3 + (3 : Int32))).bind fun v129 =>
                                                  (fx_lds L xs (x3 + (4 : Int32))).bind fun v132 =>
                                                  (fm_106 v123 v126 v129 v132 σ).bind fun q136 =>
                                                  (fx_lds L xs (x3 + (1 : Int32))).bind fun v137 =>
                                                  (fx_lds L xs (x3 + (2 : Int32))).bind fun v139 =>
                                                  (fx_lds L xs (x3 + (3 : Int32))).bind fun v141 =>
                                                  (fx_lds L xs (x3 + (4 : Int32))).bind fun v143 =>
                                                  (fm_199 v137 v139 v141 v143 q136.2).bind fun q146 =>
                                                  fm_236_1121 L xs (fm_236_18 L xs n) x3 q146.2) else (
                                                  if (v4 &&& (31 : Int32)) = (22 : Int32) then (
                                                    (fx_lds L xs (x3 + (1 : Int32))).bind fun v109 =>
                                                    (fx_lds L xs (x3 + (2 : Int32))).bind fun v112 =>
                                                    (fm_107 v109 v112 σ).bind fun q116 =>
                                                    (fx_lds L xs (x3 + (1 : Int32))).bind fun v117 =>
                                                    (fx_lds L xs (x3 + (2 : Int32))).bind fun v119 =>
                                                    (fm_201 v117 v119 q116.2).bind fun q122 =>
                                                    fm_236_1121 L xs (fm_236_18 L xs n) x3 q122.2) else (
                                                    if (v4 &&& (31 : Int32)) = (23 : Int32) then (
                                                      (fx_lds L xs (x3 + (1 : Int32))).bind fun v90 =>
                                                      (fx_lds L xs (x3 + (2 : Int32))).bind fun v93 =>
                                                      (fx_lds L xs (x3 + (3 : Int32))).bind fun v96 =>
                                                      (fm_108 v90 v93 v96 σ).bind fun q100 =>
                                                      (fx_lds L xs (x3 + (1 : Int32))).bind fun v101 =>
                                                      (fx_lds L xs (x3 + (2 : Int32))).bind fun v103 =>
                                                      (fx_lds L xs (x3 + (3 : Int32))).bind fun v105 =>
                                                      (fm_203 v101 v103 v105 q100.2).bind fun q108 =>
                                                      fm_236_1121 L xs (fm_236_18 L xs n) x3 q108.2) else (
                                                      if (v4 &&& (31 : Int32)) = (24 : Int32) then (
                                                        (fx_lds L xs (x3 + (1 : Int32))).bind fun v81 =>
                                                        (fm_109 v81 σ).bind fun q85 =>
                                                        (fx_lds L xs (x3 + (1 : Int32))).bind fun v86 =>
                                                        (fm_204 v86 q85.2).bind fun q89 =>
                                                        fm_236_1121 L xs (fm_236_18 L xs n) x3 q89.2) else (
                                                        if (v4 &&& (31 : Int32)) = (25 : Int32) then (
                                                          (fx_lds L xs (x3 + (1 : Int32))).bind fun v72 =>
                                                          (fm_110 v72 σ).bind fun q76 =>
                                                          (fx_lds L xs (x3 + (1 : Int32))).bind fun v77 =>
                                                          (fm_223 v77 q76.2).bind fun q80 =>
                                                          fm_236_1121 L xs (fm_236_18 L xs n) x3 q80.2) else (
                                                          if (v4 &&& (31 : Int32)) = (26 : Int32) then (
                                                            (fx_lds L xs (x3 + (1 : Int32))).bind fun v63 =>
                                                            (fm_111 v63 σ).bind fun q67 =>
                                                            (fx_lds L xs (x3 + (1 : Int32))).bind fun v68 =>
                                                            (fm_226 v68 q67.2).bind fun q71 =>
                                                            fm_236_1121 L xs (fm_236_18 L xs n) x3 q71.2) else (
                                                            if (v4 &&& (31 : Int32)) = (27 : Int32) then (
                                                              (fx_lds L xs (x3 + (1 : Int32))).bind fun v49 =>
                                                              (fx_lds L xs (x3 + (2 : Int32))).bind fun v52 =>
                                                              (fm_112 v49 v52 σ).bind fun q56 =>
                                                              (fx_lds L xs (x3 + (1 : Int32))).bind fun v57 =>
                                                              (fx_lds L xs (x3 + (2 : Int32))).bind fun v59 =>
                                                              (fm_227 v57 v59 q56.2).bind fun q62 =>
                                                              fm_236_1121 L xs (fm_236_18 L xs n) x3 q62.2) else (
                                                              if (v4 &&& (31 : Int32)) = (28 : Int32) then (
                                                                (fx_lds L xs (x3 + (1 : Int32))).bind fun v37 =>
                                                                (fm_113 v37 σ).bind fun q41 =>
                                                                (fx_lds L xs (x3 + (1 : Int32))).bind fun v42 =>
                                                                (fm_228 v42 q41.2).bind fun q45 =>
                                                                if q41.1 = q45.1 then (
                                                                  fm_236_1121 L xs (fm_236_18 L xs n) x3 q45.2) else (
                                                                  some (false, q45.2))) else (
                                                                fm_236_1121 L xs (fm_236_18 L xs n) x3 σ))))))))))))))))))))))))))))))
theorem fe_236_18 {d : Nat} (hd : 33 ≤ d) {L : Nat} {xs : Nat → Int32} : ∀ (n : Nat) (x3 : Int32) (σ : fx_S) (q : Bool × fx_S), fm_236_18 L xs n x3 σ = some q → fx_E (some (L, xs)) 236 d 18 [some (.retAddr 0), some (.ref 0), some (.ref 215), some (.int x3)] [] σ (some (.int (fx_b q.1))) q.2 := by
  intro n
  induction n with
  | zero =>
    intro x3 σ q  h
    rw [fm_236_18] at h
    exact fx_no h
  | succ n ih =>
    intro x3 σ q  h
    rw [fm_236_18] at h
    refine fs_iload_n (k := 3) (p := 19) (by decide +kernel) rfl rfl ?_
    refine fs_aload_n_a (k := 0) (p := 20) (by decide +kernel) rfl rfl ?_
    refine fs_alen_s (p := 21) (by decide +kernel) rfl ?_
    refine fs_bipush (n := 6) (p := 23) (by decide +kernel) rfl kb_6 ?_
    refine fs_isub (p := 24) (by decide +kernel) rfl ?_
    by_cases c3 : ((Int32.ofNat L) - (6 : Int32)) < x3
    · rw [if_pos c3] at h
      refine fs_icmp_gt_t (off := 1103) (t := 1127) (by decide +kernel) (by decide +kernel) c3 ?_
      refine fs_iconst (n := 1) (p := 1128) (by decide +kernel) rfl kc_1 ?_
      have h := Option.some.inj h
      subst h
      exact fs_zret (b := true) (by decide +kernel) rt_236
    · rw [if_neg c3] at h
      refine fs_icmp_gt_f (off := 1103) (t := 1127) (p := 27) (by decide +kernel) (by decide +kernel) rfl c3 ?_
      refine fs_aload_n_a (k := 0) (p := 28) (by decide +kernel) rfl rfl ?_
      refine fs_iload_n (k := 3) (p := 29) (by decide +kernel) rfl rfl ?_
      obtain ⟨v4, w5, h⟩ := fx_bd h
      refine fs_iaload_s (p := 30) (by decide +kernel) rfl w5 ?_
      refine fs_bipush (n := 31) (p := 32) (by decide +kernel) rfl kb_31 ?_
      refine fs_iand (p := 33) (by decide +kernel) rfl ?_
      by_cases c7 : (v4 &&& (31 : Int32)) = (0 : Int32)
      · rw [if_pos c7] at h
        refine fs_tsw_h (dflt := 1088) (lo := 0) (hi := 28) (offs := #[131, 194, 217, 240, 263, 306, 339, 372, 395, 408, 421, 464, 497, 530, 583, 626, 669, 712, 745, 778, 811, 834, 887, 920, 963, 986, 1009, 1032, 1065]) (x := (v4 &&& (31 : Int32))) (j := 0) (t := 164) (by decide +kernel) (by decide +kernel) (by decide) (c7.trans (by decide)) ?_
        refine fs_aload_n (k := 1) (p := 165) (by decide +kernel) rfl rfl ?_
        refine fs_aload_n_a (k := 0) (p := 166) (by decide +kernel) rfl rfl ?_
        refine fs_iload_n (k := 3) (p := 167) (by decide +kernel) rfl rfl ?_
        refine fs_iconst (n := 1) (p := 168) (by decide +kernel) rfl kc_1 ?_
        refine fs_iadd (p := 169) (by decide +kernel) rfl ?_
        obtain ⟨v417, w418, h⟩ := fx_bd h
        refine fs_iaload_s (p := 170) (by decide +kernel) rfl w418 ?_
        refine fs_aload_n_a (k := 0) (p := 171) (by decide +kernel) rfl rfl ?_
        refine fs_iload_n (k := 3) (p := 172) (by decide +kernel) rfl rfl ?_
        refine fs_iconst (n := 2) (p := 173) (by decide +kernel) rfl kc_2 ?_
        refine fs_iadd (p := 174) (by decide +kernel) rfl ?_
        obtain ⟨v420, w421, h⟩ := fx_bd h
        refine fs_iaload_s (p := 175) (by decide +kernel) rfl w421 ?_
        refine fs_aload_n_a (k := 0) (p := 176) (by decide +kernel) rfl rfl ?_
        refine fs_iload_n (k := 3) (p := 177) (by decide +kernel) rfl rfl ?_
        refine fs_iconst (n := 3) (p := 178) (by decide +kernel) rfl kc_3 ?_
        refine fs_iadd (p := 179) (by decide +kernel) rfl ?_
        obtain ⟨v423, w424, h⟩ := fx_bd h
        refine fs_iaload_s (p := 180) (by decide +kernel) rfl w424 ?_
        refine fs_aload_n_a (k := 0) (p := 181) (by decide +kernel) rfl rfl ?_
        refine fs_iload_n (k := 3) (p := 182) (by decide +kernel) rfl rfl ?_
        refine fs_iconst (n := 4) (p := 183) (by decide +kernel) rfl kc_4 ?_
        refine fs_iadd (p := 184) (by decide +kernel) rfl ?_
        obtain ⟨v426, w427, h⟩ := fx_bd h
        refine fs_iaload_s (p := 185) (by decide +kernel) rfl w427 ?_
        refine fs_aload_n_a (k := 0) (p := 186) (by decide +kernel) rfl rfl ?_
        refine fs_iload_n (k := 3) (p := 187) (by decide +kernel) rfl rfl ?_
        refine fs_iconst (n := 5) (p := 188) (by decide +kernel) rfl kc_5 ?_
        refine fs_iadd (p := 189) (by decide +kernel) rfl ?_
        obtain ⟨v429, w430, h⟩ := fx_bd h
        refine fs_iaload_s (p := 190) (by decide +kernel) rfl w430 ?_
        obtain ⟨q433, w432, h⟩ := fx_bd h
        refine fs_callV (idx := 13) (mj := 85) (ci := 9) (na := 5) (mx := 6) (p := 193) (args := [.ref 0, .int v417, .int v420, .int v423, .int v426, .int v429]) (rest := []) (al2 := [some (.ref 0), some (.int v417), some (.int v420), some (.int v423), some (.int v426), some (.int v429)]) (by decide +kernel) rfl (by decide +kernel) fo_0 rfl rfl rfl rfl rfl rfl rfl (by omega) (fun d' hd' => fe_85 (by omega) w432) rfl ?_
        refine fs_pop (p := 194) (by decide +kernel) rfl rfl ?_
        refine fs_aload_n (k := 2) (p := 195) (by decide +kernel) rfl rfl ?_
        refine fs_aload_n_a (k := 0) (p := 196) (by decide +kernel) rfl rfl ?_
        refine fs_iload_n (k := 3) (p := 197) (by decide +kernel) rfl rfl ?_
        refine fs_iconst (n := 1) (p := 198) (by decide +kernel) rfl kc_1 ?_
        refine fs_iadd (p := 199) (by decide +kernel) rfl ?_
        obtain ⟨v434, w435, h⟩ := fx_bd h
        refine fs_iaload_s (p := 200) (by decide +kernel) rfl w435 ?_
        refine fs_aload_n_a (k := 0) (p := 201) (by decide +kernel) rfl rfl ?_
        refine fs_iload_n (k := 3) (p := 202) (by decide +kernel) rfl rfl ?_
        refine fs_iconst (n := 2) (p := 203) (by decide +kernel) rfl kc_2 ?_
        refine fs_iadd (p := 204) (by decide +kernel) rfl ?_
        obtain ⟨v436, w437, h⟩ := fx_bd h
        refine fs_iaload_s (p := 205) (by decide +kernel) rfl w437 ?_
        refine fs_aload_n_a (k := 0) (p := 206) (by decide +kernel) rfl rfl ?_
        refine fs_iload_n (k := 3) (p := 207) (by decide +kernel) rfl rfl ?_
        refine fs_iconst (n := 3) (p := 208) (by decide +kernel) rfl kc_3 ?_
        refine fs_iadd (p := 209) (by decide +kernel) rfl ?_
        obtain ⟨v438, w439, h⟩ := fx_bd h
        refine fs_iaload_s (p := 210) (by decide +kernel) rfl w439 ?_
        refine fs_aload_n_a (k := 0) (p := 211) (by decide +kernel) rfl rfl ?_
        refine fs_iload_n (k := 3) (p := 212) (by decide +kernel) rfl rfl ?_
        refine fs_iconst (n := 4) (p := 213) (by decide +kernel) rfl kc_4 ?_
        refine fs_iadd (p := 214) (by decide +kernel) rfl ?_
        obtain ⟨v440, w441, h⟩ := fx_bd h
        refine fs_iaload_s (p := 215) (by decide +kernel) rfl w441 ?_
        refine fs_aload_n_a (k := 0) (p := 216) (by decide +kernel) rfl rfl ?_
        refine fs_iload_n (k := 3) (p := 217) (by decide +kernel) rfl rfl ?_
        refine fs_iconst (n := 5) (p := 218) (by decide +kernel) rfl kc_5 ?_
        refine fs_iadd (p := 219) (by decide +kernel) rfl ?_
        obtain ⟨v442, w443, h⟩ := fx_bd h
        refine fs_iaload_s (p := 220) (by decide +kernel) rfl w443 ?_
        obtain ⟨q445, w444, h⟩ := fx_bd h
        refine fs_callV (idx := 17) (mj := 134) (ci := 10) (na := 5) (mx := 6) (p := 223) (args := [.ref 215, .int v434, .int v436, .int v438, .int v440, .int v442]) (rest := []) (al2 := [some (.ref 215), some (.int v434), some (.int v436), some (.int v438), some (.int v440), some (.int v442)]) (by decide +kernel) rfl (by decide +kernel) fo_215 rfl rfl rfl rfl rfl rfl rfl (by omega) (fun d' hd' => fe_134 (by omega) w444) rfl ?_
        refine fs_pop (p := 224) (by decide +kernel) rfl rfl ?_
        refine fs_goto (off := 897) (p := 1121) (by decide +kernel) (by decide +kernel) ?_
        exact fe_236_1121 hd ih _ _ _ h
      · rw [if_neg c7] at h
        by_cases c8 : (v4 &&& (31 : Int32)) = (1 : Int32)
        · rw [if_pos c8] at h
          refine fs_tsw_h (dflt := 1088) (lo := 0) (hi := 28) (offs := #[131, 194, 217, 240, 263, 306, 339, 372, 395, 408, 421, 464, 497, 530, 583, 626, 669, 712, 745, 778, 811, 834, 887, 920, 963, 986, 1009, 1032, 1065]) (x := (v4 &&& (31 : Int32))) (j := 1) (t := 227) (by decide +kernel) (by decide +kernel) (by decide) (c8.trans (by decide)) ?_
          refine fs_aload_n (k := 1) (p := 228) (by decide +kernel) rfl rfl ?_
          refine fs_aload_n_a (k := 0) (p := 229) (by decide +kernel) rfl rfl ?_
          refine fs_iload_n (k := 3) (p := 230) (by decide +kernel) rfl rfl ?_
          refine fs_iconst (n := 1) (p := 231) (by decide +kernel) rfl kc_1 ?_
          refine fs_iadd (p := 232) (by decide +kernel) rfl ?_
          obtain ⟨v408, w409, h⟩ := fx_bd h
          refine fs_iaload_s (p := 233) (by decide +kernel) rfl w409 ?_
          obtain ⟨q412, w411, h⟩ := fx_bd h
          refine fs_callV (idx := 18) (mj := 86) (ci := 9) (na := 1) (mx := 2) (p := 236) (args := [.ref 0, .int v408]) (rest := []) (al2 := [some (.ref 0), some (.int v408)]) (by decide +kernel) rfl (by decide +kernel) fo_0 rfl rfl rfl rfl rfl rfl rfl (by omega) (fun d' hd' => fe_86 (by omega) w411) rfl ?_
          refine fs_pop (p := 237) (by decide +kernel) rfl rfl ?_
          refine fs_aload_n (k := 2) (p := 238) (by decide +kernel) rfl rfl ?_
          refine fs_aload_n_a (k := 0) (p := 239) (by decide +kernel) rfl rfl ?_
          refine fs_iload_n (k := 3) (p := 240) (by decide +kernel) rfl rfl ?_
          refine fs_iconst (n := 1) (p := 241) (by decide +kernel) rfl kc_1 ?_
          refine fs_iadd (p := 242) (by decide +kernel) rfl ?_
          obtain ⟨v413, w414, h⟩ := fx_bd h
          refine fs_iaload_s (p := 243) (by decide +kernel) rfl w414 ?_
          obtain ⟨q416, w415, h⟩ := fx_bd h
          refine fs_callV (idx := 22) (mj := 136) (ci := 10) (na := 1) (mx := 2) (p := 246) (args := [.ref 215, .int v413]) (rest := []) (al2 := [some (.ref 215), some (.int v413)]) (by decide +kernel) rfl (by decide +kernel) fo_215 rfl rfl rfl rfl rfl rfl rfl (by omega) (fun d' hd' => fe_136 (by omega) w415) rfl ?_
          refine fs_pop (p := 247) (by decide +kernel) rfl rfl ?_
          refine fs_goto (off := 874) (p := 1121) (by decide +kernel) (by decide +kernel) ?_
          exact fe_236_1121 hd ih _ _ _ h
        · rw [if_neg c8] at h
          by_cases c9 : (v4 &&& (31 : Int32)) = (2 : Int32)
          · rw [if_pos c9] at h
            refine fs_tsw_h (dflt := 1088) (lo := 0) (hi := 28) (offs := #[131, 194, 217, 240, 263, 306, 339, 372, 395, 408, 421, 464, 497, 530, 583, 626, 669, 712, 745, 778, 811, 834, 887, 920, 963, 986, 1009, 1032, 1065]) (x := (v4 &&& (31 : Int32))) (j := 2) (t := 250) (by decide +kernel) (by decide +kernel) (by decide) (c9.trans (by decide)) ?_
            refine fs_aload_n (k := 1) (p := 251) (by decide +kernel) rfl rfl ?_
            refine fs_aload_n_a (k := 0) (p := 252) (by decide +kernel) rfl rfl ?_
            refine fs_iload_n (k := 3) (p := 253) (by decide +kernel) rfl rfl ?_
            refine fs_iconst (n := 1) (p := 254) (by decide +kernel) rfl kc_1 ?_
            refine fs_iadd (p := 255) (by decide +kernel) rfl ?_
            obtain ⟨v399, w400, h⟩ := fx_bd h
            refine fs_iaload_s (p := 256) (by decide +kernel) rfl w400 ?_
            obtain ⟨q403, w402, h⟩ := fx_bd h
            refine fs_callV (idx := 23) (mj := 87) (ci := 9) (na := 1) (mx := 3) (p := 259) (args := [.ref 0, .int v399]) (rest := []) (al2 := [some (.ref 0), some (.int v399), none]) (by decide +kernel) rfl (by decide +kernel) fo_0 rfl rfl rfl rfl rfl rfl rfl (by omega) (fun d' hd' => fe_87 (by omega) w402) rfl ?_
            refine fs_pop (p := 260) (by decide +kernel) rfl rfl ?_
            refine fs_aload_n (k := 2) (p := 261) (by decide +kernel) rfl rfl ?_
            refine fs_aload_n_a (k := 0) (p := 262) (by decide +kernel) rfl rfl ?_
            refine fs_iload_n (k := 3) (p := 263) (by decide +kernel) rfl rfl ?_
            refine fs_iconst (n := 1) (p := 264) (by decide +kernel) rfl kc_1 ?_
            refine fs_iadd (p := 265) (by decide +kernel) rfl ?_
            obtain ⟨v404, w405, h⟩ := fx_bd h
            refine fs_iaload_s (p := 266) (by decide +kernel) rfl w405 ?_
            obtain ⟨q407, w406, h⟩ := fx_bd h
            refine fs_callV (idx := 26) (mj := 145) (ci := 10) (na := 1) (mx := 3) (p := 269) (args := [.ref 215, .int v404]) (rest := []) (al2 := [some (.ref 215), some (.int v404), none]) (by decide +kernel) rfl (by decide +kernel) fo_215 rfl rfl rfl rfl rfl rfl rfl (by omega) (fun d' hd' => fe_145 (by omega) w406) rfl ?_
            refine fs_pop (p := 270) (by decide +kernel) rfl rfl ?_
            refine fs_goto (off := 851) (p := 1121) (by decide +kernel) (by decide +kernel) ?_
            exact fe_236_1121 hd ih _ _ _ h
          · rw [if_neg c9] at h
            by_cases c10 : (v4 &&& (31 : Int32)) = (3 : Int32)
            · rw [if_pos c10] at h
              refine fs_tsw_h (dflt := 1088) (lo := 0) (hi := 28) (offs := #[131, 194, 217, 240, 263, 306, 339, 372, 395, 408, 421, 464, 497, 530, 583, 626, 669, 712, 745, 778, 811, 834, 887, 920, 963, 986, 1009, 1032, 1065]) (x := (v4 &&& (31 : Int32))) (j := 3) (t := 273) (by decide +kernel) (by decide +kernel) (by decide) (c10.trans (by decide)) ?_
              refine fs_aload_n (k := 1) (p := 274) (by decide +kernel) rfl rfl ?_
              refine fs_aload_n_a (k := 0) (p := 275) (by decide +kernel) rfl rfl ?_
              refine fs_iload_n (k := 3) (p := 276) (by decide +kernel) rfl rfl ?_
              refine fs_iconst (n := 1) (p := 277) (by decide +kernel) rfl kc_1 ?_
              refine fs_iadd (p := 278) (by decide +kernel) rfl ?_
              obtain ⟨v390, w391, h⟩ := fx_bd h
              refine fs_iaload_s (p := 279) (by decide +kernel) rfl w391 ?_
              obtain ⟨q394, w393, h⟩ := fx_bd h
              refine fs_callV (idx := 27) (mj := 88) (ci := 9) (na := 1) (mx := 3) (p := 282) (args := [.ref 0, .int v390]) (rest := []) (al2 := [some (.ref 0), some (.int v390), none]) (by decide +kernel) rfl (by decide +kernel) fo_0 rfl rfl rfl rfl rfl rfl rfl (by omega) (fun d' hd' => fe_88 (by omega) w393) rfl ?_
              refine fs_pop (p := 283) (by decide +kernel) rfl rfl ?_
              refine fs_aload_n (k := 2) (p := 284) (by decide +kernel) rfl rfl ?_
              refine fs_aload_n_a (k := 0) (p := 285) (by decide +kernel) rfl rfl ?_
              refine fs_iload_n (k := 3) (p := 286) (by decide +kernel) rfl rfl ?_
              refine fs_iconst (n := 1) (p := 287) (by decide +kernel) rfl kc_1 ?_
              refine fs_iadd (p := 288) (by decide +kernel) rfl ?_
              obtain ⟨v395, w396, h⟩ := fx_bd h
              refine fs_iaload_s (p := 289) (by decide +kernel) rfl w396 ?_
              obtain ⟨q398, w397, h⟩ := fx_bd h
              refine fs_callV (idx := 30) (mj := 149) (ci := 10) (na := 1) (mx := 4) (p := 292) (args := [.ref 215, .int v395]) (rest := []) (al2 := [some (.ref 215), some (.int v395), none, none]) (by decide +kernel) rfl (by decide +kernel) fo_215 rfl rfl rfl rfl rfl rfl rfl (by omega) (fun d' hd' => fe_149 (by omega) w397) rfl ?_
              refine fs_pop (p := 293) (by decide +kernel) rfl rfl ?_
              refine fs_goto (off := 828) (p := 1121) (by decide +kernel) (by decide +kernel) ?_
              exact fe_236_1121 hd ih _ _ _ h
            · rw [if_neg c10] at h
              by_cases c11 : (v4 &&& (31 : Int32)) = (4 : Int32)
              · rw [if_pos c11] at h
                refine fs_tsw_h (dflt := 1088) (lo := 0) (hi := 28) (offs := #[131, 194, 217, 240, 263, 306, 339, 372, 395, 408, 421, 464, 497, 530, 583, 626, 669, 712, 745, 778, 811, 834, 887, 920, 963, 986, 1009, 1032, 1065]) (x := (v4 &&& (31 : Int32))) (j := 4) (t := 296) (by decide +kernel) (by decide +kernel) (by decide) (c11.trans (by decide)) ?_
                refine fs_aload_n (k := 1) (p := 297) (by decide +kernel) rfl rfl ?_
                refine fs_aload_n_a (k := 0) (p := 298) (by decide +kernel) rfl rfl ?_
                refine fs_iload_n (k := 3) (p := 299) (by decide +kernel) rfl rfl ?_
                refine fs_iconst (n := 1) (p := 300) (by decide +kernel) rfl kc_1 ?_
                refine fs_iadd (p := 301) (by decide +kernel) rfl ?_
                obtain ⟨v371, w372, h⟩ := fx_bd h
                refine fs_iaload_s (p := 302) (by decide +kernel) rfl w372 ?_
                refine fs_aload_n_a (k := 0) (p := 303) (by decide +kernel) rfl rfl ?_
                refine fs_iload_n (k := 3) (p := 304) (by decide +kernel) rfl rfl ?_
                refine fs_iconst (n := 2) (p := 305) (by decide +kernel) rfl kc_2 ?_
                refine fs_iadd (p := 306) (by decide +kernel) rfl ?_
                obtain ⟨v374, w375, h⟩ := fx_bd h
                refine fs_iaload_s (p := 307) (by decide +kernel) rfl w375 ?_
                refine fs_aload_n_a (k := 0) (p := 308) (by decide +kernel) rfl rfl ?_
                refine fs_iload_n (k := 3) (p := 309) (by decide +kernel) rfl rfl ?_
                refine fs_iconst (n := 3) (p := 310) (by decide +kernel) rfl kc_3 ?_
                refine fs_iadd (p := 311) (by decide +kernel) rfl ?_
                obtain ⟨v377, w378, h⟩ := fx_bd h
                refine fs_iaload_s (p := 312) (by decide +kernel) rfl w378 ?_
                obtain ⟨q381, w380, h⟩ := fx_bd h
                refine fs_callV (idx := 31) (mj := 89) (ci := 9) (na := 3) (mx := 9) (p := 315) (args := [.ref 0, .int v371, .int v374, .int v377]) (rest := []) (al2 := [some (.ref 0), some (.int v371), some (.int v374), some (.int v377), none, none, none, none, none]) (by decide +kernel) rfl (by decide +kernel) fo_0 rfl rfl rfl rfl rfl rfl rfl (by omega) (fun d' hd' => fe_89 (by omega) w380) rfl ?_
                refine fs_pop (p := 316) (by decide +kernel) rfl rfl ?_
                refine fs_aload_n (k := 2) (p := 317) (by decide +kernel) rfl rfl ?_
                refine fs_aload_n_a (k := 0) (p := 318) (by decide +kernel) rfl rfl ?_
                refine fs_iload_n (k := 3) (p := 319) (by decide +kernel) rfl rfl ?_
                refine fs_iconst (n := 1) (p := 320) (by decide +kernel) rfl kc_1 ?_
                refine fs_iadd (p := 321) (by decide +kernel) rfl ?_
                obtain ⟨v382, w383, h⟩ := fx_bd h
                refine fs_iaload_s (p := 322) (by decide +kernel) rfl w383 ?_
                refine fs_aload_n_a (k := 0) (p := 323) (by decide +kernel) rfl rfl ?_
                refine fs_iload_n (k := 3) (p := 324) (by decide +kernel) rfl rfl ?_
                refine fs_iconst (n := 2) (p := 325) (by decide +kernel) rfl kc_2 ?_
                refine fs_iadd (p := 326) (by decide +kernel) rfl ?_
                obtain ⟨v384, w385, h⟩ := fx_bd h
                refine fs_iaload_s (p := 327) (by decide +kernel) rfl w385 ?_
                refine fs_aload_n_a (k := 0) (p := 328) (by decide +kernel) rfl rfl ?_
                refine fs_iload_n (k := 3) (p := 329) (by decide +kernel) rfl rfl ?_
                refine fs_iconst (n := 3) (p := 330) (by decide +kernel) rfl kc_3 ?_
                refine fs_iadd (p := 331) (by decide +kernel) rfl ?_
                obtain ⟨v386, w387, h⟩ := fx_bd h
                refine fs_iaload_s (p := 332) (by decide +kernel) rfl w387 ?_
                obtain ⟨q389, w388, h⟩ := fx_bd h
                refine fs_callV (idx := 35) (mj := 214) (ci := 10) (na := 3) (mx := 6) (p := 335) (args := [.ref 215, .int v382, .int v384, .int v386]) (rest := []) (al2 := [some (.ref 215), some (.int v382), some (.int v384), some (.int v386), none, none]) (by decide +kernel) rfl (by decide +kernel) fo_215 rfl rfl rfl rfl rfl rfl rfl (by omega) (fun d' hd' => fe_214 (by omega) w388) rfl ?_
                refine fs_pop (p := 336) (by decide +kernel) rfl rfl ?_
                refine fs_goto (off := 785) (p := 1121) (by decide +kernel) (by decide +kernel) ?_
                exact fe_236_1121 hd ih _ _ _ h
              · rw [if_neg c11] at h
                by_cases c12 : (v4 &&& (31 : Int32)) = (5 : Int32)
                · rw [if_pos c12] at h
                  refine fs_tsw_h (dflt := 1088) (lo := 0) (hi := 28) (offs := #[131, 194, 217, 240, 263, 306, 339, 372, 395, 408, 421, 464, 497, 530, 583, 626, 669, 712, 745, 778, 811, 834, 887, 920, 963, 986, 1009, 1032, 1065]) (x := (v4 &&& (31 : Int32))) (j := 5) (t := 339) (by decide +kernel) (by decide +kernel) (by decide) (c12.trans (by decide)) ?_
                  refine fs_aload_n (k := 1) (p := 340) (by decide +kernel) rfl rfl ?_
                  refine fs_aload_n_a (k := 0) (p := 341) (by decide +kernel) rfl rfl ?_
                  refine fs_iload_n (k := 3) (p := 342) (by decide +kernel) rfl rfl ?_
                  refine fs_iconst (n := 1) (p := 343) (by decide +kernel) rfl kc_1 ?_
                  refine fs_iadd (p := 344) (by decide +kernel) rfl ?_
                  obtain ⟨v357, w358, h⟩ := fx_bd h
                  refine fs_iaload_s (p := 345) (by decide +kernel) rfl w358 ?_
                  refine fs_aload_n_a (k := 0) (p := 346) (by decide +kernel) rfl rfl ?_
                  refine fs_iload_n (k := 3) (p := 347) (by decide +kernel) rfl rfl ?_
                  refine fs_iconst (n := 2) (p := 348) (by decide +kernel) rfl kc_2 ?_
                  refine fs_iadd (p := 349) (by decide +kernel) rfl ?_
                  obtain ⟨v360, w361, h⟩ := fx_bd h
                  refine fs_iaload_s (p := 350) (by decide +kernel) rfl w361 ?_
                  obtain ⟨q364, w363, h⟩ := fx_bd h
                  refine fs_callV (idx := 36) (mj := 90) (ci := 9) (na := 2) (mx := 4) (p := 353) (args := [.ref 0, .int v357, .int v360]) (rest := []) (al2 := [some (.ref 0), some (.int v357), some (.int v360), none]) (by decide +kernel) rfl (by decide +kernel) fo_0 rfl rfl rfl rfl rfl rfl rfl (by omega) (fun d' hd' => fe_90 (by omega) w363) rfl ?_
                  refine fs_pop (p := 354) (by decide +kernel) rfl rfl ?_
                  refine fs_aload_n (k := 2) (p := 355) (by decide +kernel) rfl rfl ?_
                  refine fs_aload_n_a (k := 0) (p := 356) (by decide +kernel) rfl rfl ?_
                  refine fs_iload_n (k := 3) (p := 357) (by decide +kernel) rfl rfl ?_
                  refine fs_iconst (n := 1) (p := 358) (by decide +kernel) rfl kc_1 ?_
                  refine fs_iadd (p := 359) (by decide +kernel) rfl ?_
                  obtain ⟨v365, w366, h⟩ := fx_bd h
                  refine fs_iaload_s (p := 360) (by decide +kernel) rfl w366 ?_
                  refine fs_aload_n_a (k := 0) (p := 361) (by decide +kernel) rfl rfl ?_
                  refine fs_iload_n (k := 3) (p := 362) (by decide +kernel) rfl rfl ?_
                  refine fs_iconst (n := 2) (p := 363) (by decide +kernel) rfl kc_2 ?_
                  refine fs_iadd (p := 364) (by decide +kernel) rfl ?_
                  obtain ⟨v367, w368, h⟩ := fx_bd h
                  refine fs_iaload_s (p := 365) (by decide +kernel) rfl w368 ?_
                  obtain ⟨q370, w369, h⟩ := fx_bd h
                  refine fs_callV (idx := 40) (mj := 215) (ci := 10) (na := 2) (mx := 4) (p := 368) (args := [.ref 215, .int v365, .int v367]) (rest := []) (al2 := [some (.ref 215), some (.int v365), some (.int v367), none]) (by decide +kernel) rfl (by decide +kernel) fo_215 rfl rfl rfl rfl rfl rfl rfl (by omega) (fun d' hd' => fe_215 (by omega) w369) rfl ?_
                  refine fs_pop (p := 369) (by decide +kernel) rfl rfl ?_
                  refine fs_goto (off := 752) (p := 1121) (by decide +kernel) (by decide +kernel) ?_
                  exact fe_236_1121 hd ih _ _ _ h
                · rw [if_neg c12] at h
                  by_cases c13 : (v4 &&& (31 : Int32)) = (6 : Int32)
                  · rw [if_pos c13] at h
                    refine fs_tsw_h (dflt := 1088) (lo := 0) (hi := 28) (offs := #[131, 194, 217, 240, 263, 306, 339, 372, 395, 408, 421, 464, 497, 530, 583, 626, 669, 712, 745, 778, 811, 834, 887, 920, 963, 986, 1009, 1032, 1065]) (x := (v4 &&& (31 : Int32))) (j := 6) (t := 372) (by decide +kernel) (by decide +kernel) (by decide) (c13.trans (by decide)) ?_
                    refine fs_aload_n (k := 1) (p := 373) (by decide +kernel) rfl rfl ?_
                    refine fs_aload_n_a (k := 0) (p := 374) (by decide +kernel) rfl rfl ?_
                    refine fs_iload_n (k := 3) (p := 375) (by decide +kernel) rfl rfl ?_
                    refine fs_iconst (n := 1) (p := 376) (by decide +kernel) rfl kc_1 ?_
                    refine fs_iadd (p := 377) (by decide +kernel) rfl ?_
                    obtain ⟨v343, w344, h⟩ := fx_bd h
                    refine fs_iaload_s (p := 378) (by decide +kernel) rfl w344 ?_
                    refine fs_aload_n_a (k := 0) (p := 379) (by decide +kernel) rfl rfl ?_
                    refine fs_iload_n (k := 3) (p := 380) (by decide +kernel) rfl rfl ?_
                    refine fs_iconst (n := 2) (p := 381) (by decide +kernel) rfl kc_2 ?_
                    refine fs_iadd (p := 382) (by decide +kernel) rfl ?_
                    obtain ⟨v346, w347, h⟩ := fx_bd h
                    refine fs_iaload_s (p := 383) (by decide +kernel) rfl w347 ?_
                    obtain ⟨q350, w349, h⟩ := fx_bd h
                    refine fs_callV (idx := 41) (mj := 91) (ci := 9) (na := 2) (mx := 4) (p := 386) (args := [.ref 0, .int v343, .int v346]) (rest := []) (al2 := [some (.ref 0), some (.int v343), some (.int v346), none]) (by decide +kernel) rfl (by decide +kernel) fo_0 rfl rfl rfl rfl rfl rfl rfl (by omega) (fun d' hd' => fe_91 (by omega) w349) rfl ?_
                    refine fs_pop (p := 387) (by decide +kernel) rfl rfl ?_
                    refine fs_aload_n (k := 2) (p := 388) (by decide +kernel) rfl rfl ?_
                    refine fs_aload_n_a (k := 0) (p := 389) (by decide +kernel) rfl rfl ?_
                    refine fs_iload_n (k := 3) (p := 390) (by decide +kernel) rfl rfl ?_
                    refine fs_iconst (n := 1) (p := 391) (by decide +kernel) rfl kc_1 ?_
                    refine fs_iadd (p := 392) (by decide +kernel) rfl ?_
                    obtain ⟨v351, w352, h⟩ := fx_bd h
                    refine fs_iaload_s (p := 393) (by decide +kernel) rfl w352 ?_
                    refine fs_aload_n_a (k := 0) (p := 394) (by decide +kernel) rfl rfl ?_
                    refine fs_iload_n (k := 3) (p := 395) (by decide +kernel) rfl rfl ?_
                    refine fs_iconst (n := 2) (p := 396) (by decide +kernel) rfl kc_2 ?_
                    refine fs_iadd (p := 397) (by decide +kernel) rfl ?_
                    obtain ⟨v353, w354, h⟩ := fx_bd h
                    refine fs_iaload_s (p := 398) (by decide +kernel) rfl w354 ?_
                    obtain ⟨q356, w355, h⟩ := fx_bd h
                    refine fs_callV (idx := 44) (mj := 216) (ci := 10) (na := 2) (mx := 4) (p := 401) (args := [.ref 215, .int v351, .int v353]) (rest := []) (al2 := [some (.ref 215), some (.int v351), some (.int v353), none]) (by decide +kernel) rfl (by decide +kernel) fo_215 rfl rfl rfl rfl rfl rfl rfl (by omega) (fun d' hd' => fe_216 (by omega) w355) rfl ?_
                    refine fs_pop (p := 402) (by decide +kernel) rfl rfl ?_
                    refine fs_goto (off := 719) (p := 1121) (by decide +kernel) (by decide +kernel) ?_
                    exact fe_236_1121 hd ih _ _ _ h
                  · rw [if_neg c13] at h
                    by_cases c14 : (v4 &&& (31 : Int32)) = (7 : Int32)
                    · rw [if_pos c14] at h
                      refine fs_tsw_h (dflt := 1088) (lo := 0) (hi := 28) (offs := #[131, 194, 217, 240, 263, 306, 339, 372, 395, 408, 421, 464, 497, 530, 583, 626, 669, 712, 745, 778, 811, 834, 887, 920, 963, 986, 1009, 1032, 1065]) (x := (v4 &&& (31 : Int32))) (j := 7) (t := 405) (by decide +kernel) (by decide +kernel) (by decide) (c14.trans (by decide)) ?_
                      refine fs_aload_n (k := 1) (p := 406) (by decide +kernel) rfl rfl ?_
                      refine fs_aload_n_a (k := 0) (p := 407) (by decide +kernel) rfl rfl ?_
                      refine fs_iload_n (k := 3) (p := 408) (by decide +kernel) rfl rfl ?_
                      refine fs_iconst (n := 1) (p := 409) (by decide +kernel) rfl kc_1 ?_
                      refine fs_iadd (p := 410) (by decide +kernel) rfl ?_
                      obtain ⟨v334, w335, h⟩ := fx_bd h
                      refine fs_iaload_s (p := 411) (by decide +kernel) rfl w335 ?_
                      obtain ⟨q338, w337, h⟩ := fx_bd h
                      refine fs_callV (idx := 45) (mj := 92) (ci := 9) (na := 1) (mx := 4) (p := 414) (args := [.ref 0, .int v334]) (rest := []) (al2 := [some (.ref 0), some (.int v334), none, none]) (by decide +kernel) rfl (by decide +kernel) fo_0 rfl rfl rfl rfl rfl rfl rfl (by omega) (fun d' hd' => fe_92 (by omega) w337) rfl ?_
                      refine fs_pop (p := 415) (by decide +kernel) rfl rfl ?_
                      refine fs_aload_n (k := 2) (p := 416) (by decide +kernel) rfl rfl ?_
                      refine fs_aload_n_a (k := 0) (p := 417) (by decide +kernel) rfl rfl ?_
                      refine fs_iload_n (k := 3) (p := 418) (by decide +kernel) rfl rfl ?_
                      refine fs_iconst (n := 1) (p := 419) (by decide +kernel) rfl kc_1 ?_
                      refine fs_iadd (p := 420) (by decide +kernel) rfl ?_
                      obtain ⟨v339, w340, h⟩ := fx_bd h
                      refine fs_iaload_s (p := 421) (by decide +kernel) rfl w340 ?_
                      obtain ⟨q342, w341, h⟩ := fx_bd h
                      refine fs_callV (idx := 48) (mj := 212) (ci := 10) (na := 1) (mx := 4) (p := 424) (args := [.ref 215, .int v339]) (rest := []) (al2 := [some (.ref 215), some (.int v339), none, none]) (by decide +kernel) rfl (by decide +kernel) fo_215 rfl rfl rfl rfl rfl rfl rfl (by omega) (fun d' hd' => fe_212 (by omega) w341) rfl ?_
                      refine fs_pop (p := 425) (by decide +kernel) rfl rfl ?_
                      refine fs_goto (off := 696) (p := 1121) (by decide +kernel) (by decide +kernel) ?_
                      exact fe_236_1121 hd ih _ _ _ h
                    · rw [if_neg c14] at h
                      by_cases c15 : (v4 &&& (31 : Int32)) = (8 : Int32)
                      · rw [if_pos c15] at h
                        refine fs_tsw_h (dflt := 1088) (lo := 0) (hi := 28) (offs := #[131, 194, 217, 240, 263, 306, 339, 372, 395, 408, 421, 464, 497, 530, 583, 626, 669, 712, 745, 778, 811, 834, 887, 920, 963, 986, 1009, 1032, 1065]) (x := (v4 &&& (31 : Int32))) (j := 8) (t := 428) (by decide +kernel) (by decide +kernel) (by decide) (c15.trans (by decide)) ?_
                        refine fs_aload_n (k := 1) (p := 429) (by decide +kernel) rfl rfl ?_
                        obtain ⟨q331, w330, h⟩ := fx_bd h
                        refine fs_callV (idx := 49) (mj := 93) (ci := 9) (na := 0) (mx := 3) (p := 432) (args := [.ref 0]) (rest := []) (al2 := [some (.ref 0), none, none]) (by decide +kernel) rfl (by decide +kernel) fo_0 rfl rfl rfl rfl rfl rfl rfl (by omega) (fun d' hd' => fe_93 (by omega) w330) rfl ?_
                        refine fs_pop (p := 433) (by decide +kernel) rfl rfl ?_
                        refine fs_aload_n (k := 2) (p := 434) (by decide +kernel) rfl rfl ?_
                        obtain ⟨q333, w332, h⟩ := fx_bd h
                        refine fs_callV (idx := 53) (mj := 217) (ci := 10) (na := 0) (mx := 4) (p := 437) (args := [.ref 215]) (rest := []) (al2 := [some (.ref 215), none, none, none]) (by decide +kernel) rfl (by decide +kernel) fo_215 rfl rfl rfl rfl rfl rfl rfl (by omega) (fun d' hd' => fe_217 (by omega) w332) rfl ?_
                        refine fs_pop (p := 438) (by decide +kernel) rfl rfl ?_
                        refine fs_goto (off := 683) (p := 1121) (by decide +kernel) (by decide +kernel) ?_
                        exact fe_236_1121 hd ih _ _ _ h
                      · rw [if_neg c15] at h
                        by_cases c16 : (v4 &&& (31 : Int32)) = (9 : Int32)
                        · rw [if_pos c16] at h
                          refine fs_tsw_h (dflt := 1088) (lo := 0) (hi := 28) (offs := #[131, 194, 217, 240, 263, 306, 339, 372, 395, 408, 421, 464, 497, 530, 583, 626, 669, 712, 745, 778, 811, 834, 887, 920, 963, 986, 1009, 1032, 1065]) (x := (v4 &&& (31 : Int32))) (j := 9) (t := 441) (by decide +kernel) (by decide +kernel) (by decide) (c16.trans (by decide)) ?_
                          refine fs_aload_n (k := 1) (p := 442) (by decide +kernel) rfl rfl ?_
                          obtain ⟨q327, w326, h⟩ := fx_bd h
                          refine fs_callV (idx := 54) (mj := 94) (ci := 9) (na := 0) (mx := 1) (p := 445) (args := [.ref 0]) (rest := []) (al2 := [some (.ref 0)]) (by decide +kernel) rfl (by decide +kernel) fo_0 rfl rfl rfl rfl rfl rfl rfl (by omega) (fun d' hd' => fe_94 (by omega) w326) rfl ?_
                          refine fs_pop (p := 446) (by decide +kernel) rfl rfl ?_
                          refine fs_aload_n (k := 2) (p := 447) (by decide +kernel) rfl rfl ?_
                          obtain ⟨q329, w328, h⟩ := fx_bd h
                          refine fs_callV (idx := 57) (mj := 133) (ci := 10) (na := 0) (mx := 2) (p := 450) (args := [.ref 215]) (rest := []) (al2 := [some (.ref 215), none]) (by decide +kernel) rfl (by decide +kernel) fo_215 rfl rfl rfl rfl rfl rfl rfl (by omega) (fun d' hd' => fe_133 (by omega) w328) rfl ?_
                          refine fs_pop (p := 451) (by decide +kernel) rfl rfl ?_
                          refine fs_goto (off := 670) (p := 1121) (by decide +kernel) (by decide +kernel) ?_
                          exact fe_236_1121 hd ih _ _ _ h
                        · rw [if_neg c16] at h
                          by_cases c17 : (v4 &&& (31 : Int32)) = (10 : Int32)
                          · rw [if_pos c17] at h
                            refine fs_tsw_h (dflt := 1088) (lo := 0) (hi := 28) (offs := #[131, 194, 217, 240, 263, 306, 339, 372, 395, 408, 421, 464, 497, 530, 583, 626, 669, 712, 745, 778, 811, 834, 887, 920, 963, 986, 1009, 1032, 1065]) (x := (v4 &&& (31 : Int32))) (j := 10) (t := 454) (by decide +kernel) (by decide +kernel) (by decide) (c17.trans (by decide)) ?_
                            refine fs_aload_n (k := 1) (p := 455) (by decide +kernel) rfl rfl ?_
                            refine fs_aload_n_a (k := 0) (p := 456) (by decide +kernel) rfl rfl ?_
                            refine fs_iload_n (k := 3) (p := 457) (by decide +kernel) rfl rfl ?_
                            refine fs_iconst (n := 1) (p := 458) (by decide +kernel) rfl kc_1 ?_
                            refine fs_iadd (p := 459) (by decide +kernel) rfl ?_
                            obtain ⟨v307, w308, h⟩ := fx_bd h
                            refine fs_iaload_s (p := 460) (by decide +kernel) rfl w308 ?_
                            refine fs_aload_n_a (k := 0) (p := 461) (by decide +kernel) rfl rfl ?_
                            refine fs_iload_n (k := 3) (p := 462) (by decide +kernel) rfl rfl ?_
                            refine fs_iconst (n := 2) (p := 463) (by decide +kernel) rfl kc_2 ?_
                            refine fs_iadd (p := 464) (by decide +kernel) rfl ?_
                            obtain ⟨v310, w311, h⟩ := fx_bd h
                            refine fs_iaload_s (p := 465) (by decide +kernel) rfl w311 ?_
                            refine fs_aload_n_a (k := 0) (p := 466) (by decide +kernel) rfl rfl ?_
                            refine fs_iload_n (k := 3) (p := 467) (by decide +kernel) rfl rfl ?_
                            refine fs_iconst (n := 3) (p := 468) (by decide +kernel) rfl kc_3 ?_
                            refine fs_iadd (p := 469) (by decide +kernel) rfl ?_
                            obtain ⟨v313, w314, h⟩ := fx_bd h
                            refine fs_iaload_s (p := 470) (by decide +kernel) rfl w314 ?_
                            obtain ⟨q317, w316, h⟩ := fx_bd h
                            refine fs_callV (idx := 58) (mj := 95) (ci := 9) (na := 3) (mx := 5) (p := 473) (args := [.ref 0, .int v307, .int v310, .int v313]) (rest := []) (al2 := [some (.ref 0), some (.int v307), some (.int v310), some (.int v313), none]) (by decide +kernel) rfl (by decide +kernel) fo_0 rfl rfl rfl rfl rfl rfl rfl (by omega) (fun d' hd' => fe_95 (by omega) w316) rfl ?_
                            refine fs_pop (p := 474) (by decide +kernel) rfl rfl ?_
                            refine fs_aload_n (k := 2) (p := 475) (by decide +kernel) rfl rfl ?_
                            refine fs_aload_n_a (k := 0) (p := 476) (by decide +kernel) rfl rfl ?_
                            refine fs_iload_n (k := 3) (p := 477) (by decide +kernel) rfl rfl ?_
                            refine fs_iconst (n := 1) (p := 478) (by decide +kernel) rfl kc_1 ?_
                            refine fs_iadd (p := 479) (by decide +kernel) rfl ?_
                            obtain ⟨v318, w319, h⟩ := fx_bd h
                            refine fs_iaload_s (p := 480) (by decide +kernel) rfl w319 ?_
                            refine fs_aload_n_a (k := 0) (p := 481) (by decide +kernel) rfl rfl ?_
                            refine fs_iload_n (k := 3) (p := 482) (by decide +kernel) rfl rfl ?_
                            refine fs_iconst (n := 2) (p := 483) (by decide +kernel) rfl kc_2 ?_
                            refine fs_iadd (p := 484) (by decide +kernel) rfl ?_
                            obtain ⟨v320, w321, h⟩ := fx_bd h
                            refine fs_iaload_s (p := 485) (by decide +kernel) rfl w321 ?_
                            refine fs_aload_n_a (k := 0) (p := 486) (by decide +kernel) rfl rfl ?_
                            refine fs_iload_n (k := 3) (p := 487) (by decide +kernel) rfl rfl ?_
                            refine fs_iconst (n := 3) (p := 488) (by decide +kernel) rfl kc_3 ?_
                            refine fs_iadd (p := 489) (by decide +kernel) rfl ?_
                            obtain ⟨v322, w323, h⟩ := fx_bd h
                            refine fs_iaload_s (p := 490) (by decide +kernel) rfl w323 ?_
                            obtain ⟨q325, w324, h⟩ := fx_bd h
                            refine fs_callV (idx := 61) (mj := 218) (ci := 10) (na := 3) (mx := 5) (p := 493) (args := [.ref 215, .int v318, .int v320, .int v322]) (rest := []) (al2 := [some (.ref 215), some (.int v318), some (.int v320), some (.int v322), none]) (by decide +kernel) rfl (by decide +kernel) fo_215 rfl rfl rfl rfl rfl rfl rfl (by omega) (fun d' hd' => fe_218 (by omega) w324) rfl ?_
                            refine fs_pop (p := 494) (by decide +kernel) rfl rfl ?_
                            refine fs_goto (off := 627) (p := 1121) (by decide +kernel) (by decide +kernel) ?_
                            exact fe_236_1121 hd ih _ _ _ h
                          · rw [if_neg c17] at h
                            by_cases c18 : (v4 &&& (31 : Int32)) = (11 : Int32)
                            · rw [if_pos c18] at h
                              refine fs_tsw_h (dflt := 1088) (lo := 0) (hi := 28) (offs := #[131, 194, 217, 240, 263, 306, 339, 372, 395, 408, 421, 464, 497, 530, 583, 626, 669, 712, 745, 778, 811, 834, 887, 920, 963, 986, 1009, 1032, 1065]) (x := (v4 &&& (31 : Int32))) (j := 11) (t := 497) (by decide +kernel) (by decide +kernel) (by decide) (c18.trans (by decide)) ?_
                              refine fs_aload_n (k := 1) (p := 498) (by decide +kernel) rfl rfl ?_
                              refine fs_aload_n_a (k := 0) (p := 499) (by decide +kernel) rfl rfl ?_
                              refine fs_iload_n (k := 3) (p := 500) (by decide +kernel) rfl rfl ?_
                              refine fs_iconst (n := 1) (p := 501) (by decide +kernel) rfl kc_1 ?_
                              refine fs_iadd (p := 502) (by decide +kernel) rfl ?_
                              obtain ⟨v293, w294, h⟩ := fx_bd h
                              refine fs_iaload_s (p := 503) (by decide +kernel) rfl w294 ?_
                              refine fs_aload_n_a (k := 0) (p := 504) (by decide +kernel) rfl rfl ?_
                              refine fs_iload_n (k := 3) (p := 505) (by decide +kernel) rfl rfl ?_
                              refine fs_iconst (n := 2) (p := 506) (by decide +kernel) rfl kc_2 ?_
                              refine fs_iadd (p := 507) (by decide +kernel) rfl ?_
                              obtain ⟨v296, w297, h⟩ := fx_bd h
                              refine fs_iaload_s (p := 508) (by decide +kernel) rfl w297 ?_
                              obtain ⟨q300, w299, h⟩ := fx_bd h
                              refine fs_callV (idx := 62) (mj := 96) (ci := 9) (na := 2) (mx := 5) (p := 511) (args := [.ref 0, .int v293, .int v296]) (rest := []) (al2 := [some (.ref 0), some (.int v293), some (.int v296), none, none]) (by decide +kernel) rfl (by decide +kernel) fo_0 rfl rfl rfl rfl rfl rfl rfl (by omega) (fun d' hd' => fe_96 (by omega) w299) rfl ?_
                              refine fs_pop (p := 512) (by decide +kernel) rfl rfl ?_
                              refine fs_aload_n (k := 2) (p := 513) (by decide +kernel) rfl rfl ?_
                              refine fs_aload_n_a (k := 0) (p := 514) (by decide +kernel) rfl rfl ?_
                              refine fs_iload_n (k := 3) (p := 515) (by decide +kernel) rfl rfl ?_
                              refine fs_iconst (n := 1) (p := 516) (by decide +kernel) rfl kc_1 ?_
                              refine fs_iadd (p := 517) (by decide +kernel) rfl ?_
                              obtain ⟨v301, w302, h⟩ := fx_bd h
                              refine fs_iaload_s (p := 518) (by decide +kernel) rfl w302 ?_
                              refine fs_aload_n_a (k := 0) (p := 519) (by decide +kernel) rfl rfl ?_
                              refine fs_iload_n (k := 3) (p := 520) (by decide +kernel) rfl rfl ?_
                              refine fs_iconst (n := 2) (p := 521) (by decide +kernel) rfl kc_2 ?_
                              refine fs_iadd (p := 522) (by decide +kernel) rfl ?_
                              obtain ⟨v303, w304, h⟩ := fx_bd h
                              refine fs_iaload_s (p := 523) (by decide +kernel) rfl w304 ?_
                              obtain ⟨q306, w305, h⟩ := fx_bd h
                              refine fs_callV (idx := 65) (mj := 220) (ci := 10) (na := 2) (mx := 8) (p := 526) (args := [.ref 215, .int v301, .int v303]) (rest := []) (al2 := [some (.ref 215), some (.int v301), some (.int v303), none, none, none, none, none]) (by decide +kernel) rfl (by decide +kernel) fo_215 rfl rfl rfl rfl rfl rfl rfl (by omega) (fun d' hd' => fe_220 (by omega) w305) rfl ?_
                              refine fs_pop (p := 527) (by decide +kernel) rfl rfl ?_
                              refine fs_goto (off := 594) (p := 1121) (by decide +kernel) (by decide +kernel) ?_
                              exact fe_236_1121 hd ih _ _ _ h
                            · rw [if_neg c18] at h
                              by_cases c19 : (v4 &&& (31 : Int32)) = (12 : Int32)
                              · rw [if_pos c19] at h
                                refine fs_tsw_h (dflt := 1088) (lo := 0) (hi := 28) (offs := #[131, 194, 217, 240, 263, 306, 339, 372, 395, 408, 421, 464, 497, 530, 583, 626, 669, 712, 745, 778, 811, 834, 887, 920, 963, 986, 1009, 1032, 1065]) (x := (v4 &&& (31 : Int32))) (j := 12) (t := 530) (by decide +kernel) (by decide +kernel) (by decide) (c19.trans (by decide)) ?_
                                refine fs_aload_n (k := 1) (p := 531) (by decide +kernel) rfl rfl ?_
                                refine fs_aload_n_a (k := 0) (p := 532) (by decide +kernel) rfl rfl ?_
                                refine fs_iload_n (k := 3) (p := 533) (by decide +kernel) rfl rfl ?_
                                refine fs_iconst (n := 1) (p := 534) (by decide +kernel) rfl kc_1 ?_
                                refine fs_iadd (p := 535) (by decide +kernel) rfl ?_
                                obtain ⟨v279, w280, h⟩ := fx_bd h
                                refine fs_iaload_s (p := 536) (by decide +kernel) rfl w280 ?_
                                refine fs_aload_n_a (k := 0) (p := 537) (by decide +kernel) rfl rfl ?_
                                refine fs_iload_n (k := 3) (p := 538) (by decide +kernel) rfl rfl ?_
                                refine fs_iconst (n := 2) (p := 539) (by decide +kernel) rfl kc_2 ?_
                                refine fs_iadd (p := 540) (by decide +kernel) rfl ?_
                                obtain ⟨v282, w283, h⟩ := fx_bd h
                                refine fs_iaload_s (p := 541) (by decide +kernel) rfl w283 ?_
                                obtain ⟨q286, w285, h⟩ := fx_bd h
                                refine fs_callV (idx := 66) (mj := 97) (ci := 9) (na := 2) (mx := 4) (p := 544) (args := [.ref 0, .int v279, .int v282]) (rest := []) (al2 := [some (.ref 0), some (.int v279), some (.int v282), none]) (by decide +kernel) rfl (by decide +kernel) fo_0 rfl rfl rfl rfl rfl rfl rfl (by omega) (fun d' hd' => fe_97 (by omega) w285) rfl ?_
                                refine fs_pop (p := 545) (by decide +kernel) rfl rfl ?_
                                refine fs_aload_n (k := 2) (p := 546) (by decide +kernel) rfl rfl ?_
                                refine fs_aload_n_a (k := 0) (p := 547) (by decide +kernel) rfl rfl ?_
                                refine fs_iload_n (k := 3) (p := 548) (by decide +kernel) rfl rfl ?_
                                refine fs_iconst (n := 1) (p := 549) (by decide +kernel) rfl kc_1 ?_
                                refine fs_iadd (p := 550) (by decide +kernel) rfl ?_
                                obtain ⟨v287, w288, h⟩ := fx_bd h
                                refine fs_iaload_s (p := 551) (by decide +kernel) rfl w288 ?_
                                refine fs_aload_n_a (k := 0) (p := 552) (by decide +kernel) rfl rfl ?_
                                refine fs_iload_n (k := 3) (p := 553) (by decide +kernel) rfl rfl ?_
                                refine fs_iconst (n := 2) (p := 554) (by decide +kernel) rfl kc_2 ?_
                                refine fs_iadd (p := 555) (by decide +kernel) rfl ?_
                                obtain ⟨v289, w290, h⟩ := fx_bd h
                                refine fs_iaload_s (p := 556) (by decide +kernel) rfl w290 ?_
                                obtain ⟨q292, w291, h⟩ := fx_bd h
                                refine fs_callV (idx := 69) (mj := 179) (ci := 10) (na := 2) (mx := 3) (p := 559) (args := [.ref 215, .int v287, .int v289]) (rest := []) (al2 := [some (.ref 215), some (.int v287), some (.int v289)]) (by decide +kernel) rfl (by decide +kernel) fo_215 rfl rfl rfl rfl rfl rfl rfl (by omega) (fun d' hd' => fe_179 (by omega) w291) rfl ?_
                                refine fs_pop (p := 560) (by decide +kernel) rfl rfl ?_
                                refine fs_goto (off := 561) (p := 1121) (by decide +kernel) (by decide +kernel) ?_
                                exact fe_236_1121 hd ih _ _ _ h
                              · rw [if_neg c19] at h
                                by_cases c20 : (v4 &&& (31 : Int32)) = (13 : Int32)
                                · rw [if_pos c20] at h
                                  refine fs_tsw_h (dflt := 1088) (lo := 0) (hi := 28) (offs := #[131, 194, 217, 240, 263, 306, 339, 372, 395, 408, 421, 464, 497, 530, 583, 626, 669, 712, 745, 778, 811, 834, 887, 920, 963, 986, 1009, 1032, 1065]) (x := (v4 &&& (31 : Int32))) (j := 13) (t := 563) (by decide +kernel) (by decide +kernel) (by decide) (c20.trans (by decide)) ?_
                                  refine fs_aload_n (k := 1) (p := 564) (by decide +kernel) rfl rfl ?_
                                  refine fs_aload_n_a (k := 0) (p := 565) (by decide +kernel) rfl rfl ?_
                                  refine fs_iload_n (k := 3) (p := 566) (by decide +kernel) rfl rfl ?_
                                  refine fs_iconst (n := 1) (p := 567) (by decide +kernel) rfl kc_1 ?_
                                  refine fs_iadd (p := 568) (by decide +kernel) rfl ?_
                                  obtain ⟨v255, w256, h⟩ := fx_bd h
                                  refine fs_iaload_s (p := 569) (by decide +kernel) rfl w256 ?_
                                  refine fs_aload_n_a (k := 0) (p := 570) (by decide +kernel) rfl rfl ?_
                                  refine fs_iload_n (k := 3) (p := 571) (by decide +kernel) rfl rfl ?_
                                  refine fs_iconst (n := 2) (p := 572) (by decide +kernel) rfl kc_2 ?_
                                  refine fs_iadd (p := 573) (by decide +kernel) rfl ?_
                                  obtain ⟨v258, w259, h⟩ := fx_bd h
                                  refine fs_iaload_s (p := 574) (by decide +kernel) rfl w259 ?_
                                  refine fs_aload_n_a (k := 0) (p := 575) (by decide +kernel) rfl rfl ?_
                                  refine fs_iload_n (k := 3) (p := 576) (by decide +kernel) rfl rfl ?_
                                  refine fs_iconst (n := 3) (p := 577) (by decide +kernel) rfl kc_3 ?_
                                  refine fs_iadd (p := 578) (by decide +kernel) rfl ?_
                                  obtain ⟨v261, w262, h⟩ := fx_bd h
                                  refine fs_iaload_s (p := 579) (by decide +kernel) rfl w262 ?_
                                  refine fs_aload_n_a (k := 0) (p := 580) (by decide +kernel) rfl rfl ?_
                                  refine fs_iload_n (k := 3) (p := 581) (by decide +kernel) rfl rfl ?_
                                  refine fs_iconst (n := 4) (p := 582) (by decide +kernel) rfl kc_4 ?_
                                  refine fs_iadd (p := 583) (by decide +kernel) rfl ?_
                                  obtain ⟨v264, w265, h⟩ := fx_bd h
                                  refine fs_iaload_s (p := 584) (by decide +kernel) rfl w265 ?_
                                  obtain ⟨q268, w267, h⟩ := fx_bd h
                                  refine fs_callV (idx := 70) (mj := 98) (ci := 9) (na := 4) (mx := 8) (p := 587) (args := [.ref 0, .int v255, .int v258, .int v261, .int v264]) (rest := []) (al2 := [some (.ref 0), some (.int v255), some (.int v258), some (.int v261), some (.int v264), none, none, none]) (by decide +kernel) rfl (by decide +kernel) fo_0 rfl rfl rfl rfl rfl rfl rfl (by omega) (fun d' hd' => fe_98 (by omega) w267) rfl ?_
                                  refine fs_pop (p := 588) (by decide +kernel) rfl rfl ?_
                                  refine fs_aload_n (k := 2) (p := 589) (by decide +kernel) rfl rfl ?_
                                  refine fs_aload_n_a (k := 0) (p := 590) (by decide +kernel) rfl rfl ?_
                                  refine fs_iload_n (k := 3) (p := 591) (by decide +kernel) rfl rfl ?_
                                  refine fs_iconst (n := 1) (p := 592) (by decide +kernel) rfl kc_1 ?_
                                  refine fs_iadd (p := 593) (by decide +kernel) rfl ?_
                                  obtain ⟨v269, w270, h⟩ := fx_bd h
                                  refine fs_iaload_s (p := 594) (by decide +kernel) rfl w270 ?_
                                  refine fs_aload_n_a (k := 0) (p := 595) (by decide +kernel) rfl rfl ?_
                                  refine fs_iload_n (k := 3) (p := 596) (by decide +kernel) rfl rfl ?_
                                  refine fs_iconst (n := 2) (p := 597) (by decide +kernel) rfl kc_2 ?_
                                  refine fs_iadd (p := 598) (by decide +kernel) rfl ?_
                                  obtain ⟨v271, w272, h⟩ := fx_bd h
                                  refine fs_iaload_s (p := 599) (by decide +kernel) rfl w272 ?_
                                  refine fs_aload_n_a (k := 0) (p := 600) (by decide +kernel) rfl rfl ?_
                                  refine fs_iload_n (k := 3) (p := 601) (by decide +kernel) rfl rfl ?_
                                  refine fs_iconst (n := 3) (p := 602) (by decide +kernel) rfl kc_3 ?_
                                  refine fs_iadd (p := 603) (by decide +kernel) rfl ?_
                                  obtain ⟨v273, w274, h⟩ := fx_bd h
                                  refine fs_iaload_s (p := 604) (by decide +kernel) rfl w274 ?_
                                  refine fs_aload_n_a (k := 0) (p := 605) (by decide +kernel) rfl rfl ?_
                                  refine fs_iload_n (k := 3) (p := 606) (by decide +kernel) rfl rfl ?_
                                  refine fs_iconst (n := 4) (p := 607) (by decide +kernel) rfl kc_4 ?_
                                  refine fs_iadd (p := 608) (by decide +kernel) rfl ?_
                                  obtain ⟨v275, w276, h⟩ := fx_bd h
                                  refine fs_iaload_s (p := 609) (by decide +kernel) rfl w276 ?_
                                  obtain ⟨q278, w277, h⟩ := fx_bd h
                                  refine fs_callV (idx := 74) (mj := 195) (ci := 10) (na := 4) (mx := 6) (p := 612) (args := [.ref 215, .int v269, .int v271, .int v273, .int v275]) (rest := []) (al2 := [some (.ref 215), some (.int v269), some (.int v271), some (.int v273), some (.int v275), none]) (by decide +kernel) rfl (by decide +kernel) fo_215 rfl rfl rfl rfl rfl rfl rfl (by omega) (fun d' hd' => fe_195 (by omega) w277) rfl ?_
                                  refine fs_pop (p := 613) (by decide +kernel) rfl rfl ?_
                                  refine fs_goto (off := 508) (p := 1121) (by decide +kernel) (by decide +kernel) ?_
                                  exact fe_236_1121 hd ih _ _ _ h
                                · rw [if_neg c20] at h
                                  by_cases c21 : (v4 &&& (31 : Int32)) = (14 : Int32)
                                  · rw [if_pos c21] at h
                                    refine fs_tsw_h (dflt := 1088) (lo := 0) (hi := 28) (offs := #[131, 194, 217, 240, 263, 306, 339, 372, 395, 408, 421, 464, 497, 530, 583, 626, 669, 712, 745, 778, 811, 834, 887, 920, 963, 986, 1009, 1032, 1065]) (x := (v4 &&& (31 : Int32))) (j := 14) (t := 616) (by decide +kernel) (by decide +kernel) (by decide) (c21.trans (by decide)) ?_
                                    refine fs_aload_n (k := 1) (p := 617) (by decide +kernel) rfl rfl ?_
                                    refine fs_aload_n_a (k := 0) (p := 618) (by decide +kernel) rfl rfl ?_
                                    refine fs_iload_n (k := 3) (p := 619) (by decide +kernel) rfl rfl ?_
                                    refine fs_iconst (n := 1) (p := 620) (by decide +kernel) rfl kc_1 ?_
                                    refine fs_iadd (p := 621) (by decide +kernel) rfl ?_
                                    obtain ⟨v236, w237, h⟩ := fx_bd h
                                    refine fs_iaload_s (p := 622) (by decide +kernel) rfl w237 ?_
                                    refine fs_aload_n_a (k := 0) (p := 623) (by decide +kernel) rfl rfl ?_
                                    refine fs_iload_n (k := 3) (p := 624) (by decide +kernel) rfl rfl ?_
                                    refine fs_iconst (n := 2) (p := 625) (by decide +kernel) rfl kc_2 ?_
                                    refine fs_iadd (p := 626) (by decide +kernel) rfl ?_
                                    obtain ⟨v239, w240, h⟩ := fx_bd h
                                    refine fs_iaload_s (p := 627) (by decide +kernel) rfl w240 ?_
                                    refine fs_aload_n_a (k := 0) (p := 628) (by decide +kernel) rfl rfl ?_
                                    refine fs_iload_n (k := 3) (p := 629) (by decide +kernel) rfl rfl ?_
                                    refine fs_iconst (n := 3) (p := 630) (by decide +kernel) rfl kc_3 ?_
                                    refine fs_iadd (p := 631) (by decide +kernel) rfl ?_
                                    obtain ⟨v242, w243, h⟩ := fx_bd h
                                    refine fs_iaload_s (p := 632) (by decide +kernel) rfl w243 ?_
                                    obtain ⟨q246, w245, h⟩ := fx_bd h
                                    refine fs_callV (idx := 75) (mj := 99) (ci := 9) (na := 3) (mx := 12) (p := 635) (args := [.ref 0, .int v236, .int v239, .int v242]) (rest := []) (al2 := [some (.ref 0), some (.int v236), some (.int v239), some (.int v242), none, none, none, none, none, none, none, none]) (by decide +kernel) rfl (by decide +kernel) fo_0 rfl rfl rfl rfl rfl rfl rfl (by omega) (fun d' hd' => fe_99 (by omega) w245) rfl ?_
                                    refine fs_pop (p := 636) (by decide +kernel) rfl rfl ?_
                                    refine fs_aload_n (k := 2) (p := 637) (by decide +kernel) rfl rfl ?_
                                    refine fs_aload_n_a (k := 0) (p := 638) (by decide +kernel) rfl rfl ?_
                                    refine fs_iload_n (k := 3) (p := 639) (by decide +kernel) rfl rfl ?_
                                    refine fs_iconst (n := 1) (p := 640) (by decide +kernel) rfl kc_1 ?_
                                    refine fs_iadd (p := 641) (by decide +kernel) rfl ?_
                                    obtain ⟨v247, w248, h⟩ := fx_bd h
                                    refine fs_iaload_s (p := 642) (by decide +kernel) rfl w248 ?_
                                    refine fs_aload_n_a (k := 0) (p := 643) (by decide +kernel) rfl rfl ?_
                                    refine fs_iload_n (k := 3) (p := 644) (by decide +kernel) rfl rfl ?_
                                    refine fs_iconst (n := 2) (p := 645) (by decide +kernel) rfl kc_2 ?_
                                    refine fs_iadd (p := 646) (by decide +kernel) rfl ?_
                                    obtain ⟨v249, w250, h⟩ := fx_bd h
                                    refine fs_iaload_s (p := 647) (by decide +kernel) rfl w250 ?_
                                    refine fs_aload_n_a (k := 0) (p := 648) (by decide +kernel) rfl rfl ?_
                                    refine fs_iload_n (k := 3) (p := 649) (by decide +kernel) rfl rfl ?_
                                    refine fs_iconst (n := 3) (p := 650) (by decide +kernel) rfl kc_3 ?_
                                    refine fs_iadd (p := 651) (by decide +kernel) rfl ?_
                                    obtain ⟨v251, w252, h⟩ := fx_bd h
                                    refine fs_iaload_s (p := 652) (by decide +kernel) rfl w252 ?_
                                    obtain ⟨q254, w253, h⟩ := fx_bd h
                                    refine fs_callV (idx := 78) (mj := 185) (ci := 10) (na := 3) (mx := 4) (p := 655) (args := [.ref 215, .int v247, .int v249, .int v251]) (rest := []) (al2 := [some (.ref 215), some (.int v247), some (.int v249), some (.int v251)]) (by decide +kernel) rfl (by decide +kernel) fo_215 rfl rfl rfl rfl rfl rfl rfl (by omega) (fun d' hd' => fe_185 (by omega) w253) rfl ?_
                                    refine fs_pop (p := 656) (by decide +kernel) rfl rfl ?_
                                    refine fs_goto (off := 465) (p := 1121) (by decide +kernel) (by decide +kernel) ?_
                                    exact fe_236_1121 hd ih _ _ _ h
                                  · rw [if_neg c21] at h
                                    by_cases c22 : (v4 &&& (31 : Int32)) = (15 : Int32)
                                    · rw [if_pos c22] at h
                                      refine fs_tsw_h (dflt := 1088) (lo := 0) (hi := 28) (offs := #[131, 194, 217, 240, 263, 306, 339, 372, 395, 408, 421, 464, 497, 530, 583, 626, 669, 712, 745, 778, 811, 834, 887, 920, 963, 986, 1009, 1032, 1065]) (x := (v4 &&& (31 : Int32))) (j := 15) (t := 659) (by decide +kernel) (by decide +kernel) (by decide) (c22.trans (by decide)) ?_
                                      refine fs_aload_n (k := 1) (p := 660) (by decide +kernel) rfl rfl ?_
                                      refine fs_aload_n_a (k := 0) (p := 661) (by decide +kernel) rfl rfl ?_
                                      refine fs_iload_n (k := 3) (p := 662) (by decide +kernel) rfl rfl ?_
                                      refine fs_iconst (n := 1) (p := 663) (by decide +kernel) rfl kc_1 ?_
                                      refine fs_iadd (p := 664) (by decide +kernel) rfl ?_
                                      obtain ⟨v217, w218, h⟩ := fx_bd h
                                      refine fs_iaload_s (p := 665) (by decide +kernel) rfl w218 ?_
                                      refine fs_aload_n_a (k := 0) (p := 666) (by decide +kernel) rfl rfl ?_
                                      refine fs_iload_n (k := 3) (p := 667) (by decide +kernel) rfl rfl ?_
                                      refine fs_iconst (n := 2) (p := 668) (by decide +kernel) rfl kc_2 ?_
                                      refine fs_iadd (p := 669) (by decide +kernel) rfl ?_
                                      obtain ⟨v220, w221, h⟩ := fx_bd h
                                      refine fs_iaload_s (p := 670) (by decide +kernel) rfl w221 ?_
                                      refine fs_aload_n_a (k := 0) (p := 671) (by decide +kernel) rfl rfl ?_
                                      refine fs_iload_n (k := 3) (p := 672) (by decide +kernel) rfl rfl ?_
                                      refine fs_iconst (n := 3) (p := 673) (by decide +kernel) rfl kc_3 ?_
                                      refine fs_iadd (p := 674) (by decide +kernel) rfl ?_
                                      obtain ⟨v223, w224, h⟩ := fx_bd h
                                      refine fs_iaload_s (p := 675) (by decide +kernel) rfl w224 ?_
                                      obtain ⟨q227, w226, h⟩ := fx_bd h
                                      refine fs_callV (idx := 79) (mj := 100) (ci := 9) (na := 3) (mx := 9) (p := 678) (args := [.ref 0, .int v217, .int v220, .int v223]) (rest := []) (al2 := [some (.ref 0), some (.int v217), some (.int v220), some (.int v223), none, none, none, none, none]) (by decide +kernel) rfl (by decide +kernel) fo_0 rfl rfl rfl rfl rfl rfl rfl (by omega) (fun d' hd' => fe_100 (by omega) w226) rfl ?_
                                      refine fs_pop2 (p := 679) (by decide +kernel) rfl rfl ?_
                                      refine fs_aload_n (k := 2) (p := 680) (by decide +kernel) rfl rfl ?_
                                      refine fs_aload_n_a (k := 0) (p := 681) (by decide +kernel) rfl rfl ?_
                                      refine fs_iload_n (k := 3) (p := 682) (by decide +kernel) rfl rfl ?_
                                      refine fs_iconst (n := 1) (p := 683) (by decide +kernel) rfl kc_1 ?_
                                      refine fs_iadd (p := 684) (by decide +kernel) rfl ?_
                                      obtain ⟨v228, w229, h⟩ := fx_bd h
                                      refine fs_iaload_s (p := 685) (by decide +kernel) rfl w229 ?_
                                      refine fs_aload_n_a (k := 0) (p := 686) (by decide +kernel) rfl rfl ?_
                                      refine fs_iload_n (k := 3) (p := 687) (by decide +kernel) rfl rfl ?_
                                      refine fs_iconst (n := 2) (p := 688) (by decide +kernel) rfl kc_2 ?_
                                      refine fs_iadd (p := 689) (by decide +kernel) rfl ?_
                                      obtain ⟨v230, w231, h⟩ := fx_bd h
                                      refine fs_iaload_s (p := 690) (by decide +kernel) rfl w231 ?_
                                      refine fs_aload_n_a (k := 0) (p := 691) (by decide +kernel) rfl rfl ?_
                                      refine fs_iload_n (k := 3) (p := 692) (by decide +kernel) rfl rfl ?_
                                      refine fs_iconst (n := 3) (p := 693) (by decide +kernel) rfl kc_3 ?_
                                      refine fs_iadd (p := 694) (by decide +kernel) rfl ?_
                                      obtain ⟨v232, w233, h⟩ := fx_bd h
                                      refine fs_iaload_s (p := 695) (by decide +kernel) rfl w233 ?_
                                      obtain ⟨q235, w234, h⟩ := fx_bd h
                                      refine fs_callV (idx := 83) (mj := 196) (ci := 10) (na := 3) (mx := 7) (p := 698) (args := [.ref 215, .int v228, .int v230, .int v232]) (rest := []) (al2 := [some (.ref 215), some (.int v228), some (.int v230), some (.int v232), none, none, none]) (by decide +kernel) rfl (by decide +kernel) fo_215 rfl rfl rfl rfl rfl rfl rfl (by omega) (fun d' hd' => fe_196 (by omega) w234) rfl ?_
                                      refine fs_pop2 (p := 699) (by decide +kernel) rfl rfl ?_
                                      refine fs_goto (off := 422) (p := 1121) (by decide +kernel) (by decide +kernel) ?_
                                      exact fe_236_1121 hd ih _ _ _ h
                                    · rw [if_neg c22] at h
                                      by_cases c23 : (v4 &&& (31 : Int32)) = (16 : Int32)
                                      · rw [if_pos c23] at h
                                        refine fs_tsw_h (dflt := 1088) (lo := 0) (hi := 28) (offs := #[131, 194, 217, 240, 263, 306, 339, 372, 395, 408, 421, 464, 497, 530, 583, 626, 669, 712, 745, 778, 811, 834, 887, 920, 963, 986, 1009, 1032, 1065]) (x := (v4 &&& (31 : Int32))) (j := 16) (t := 702) (by decide +kernel) (by decide +kernel) (by decide) (c23.trans (by decide)) ?_
                                        refine fs_aload_n (k := 1) (p := 703) (by decide +kernel) rfl rfl ?_
                                        refine fs_aload_n_a (k := 0) (p := 704) (by decide +kernel) rfl rfl ?_
                                        refine fs_iload_n (k := 3) (p := 705) (by decide +kernel) rfl rfl ?_
                                        refine fs_iconst (n := 1) (p := 706) (by decide +kernel) rfl kc_1 ?_
                                        refine fs_iadd (p := 707) (by decide +kernel) rfl ?_
                                        obtain ⟨v198, w199, h⟩ := fx_bd h
                                        refine fs_iaload_s (p := 708) (by decide +kernel) rfl w199 ?_
                                        refine fs_aload_n_a (k := 0) (p := 709) (by decide +kernel) rfl rfl ?_
                                        refine fs_iload_n (k := 3) (p := 710) (by decide +kernel) rfl rfl ?_
                                        refine fs_iconst (n := 2) (p := 711) (by decide +kernel) rfl kc_2 ?_
                                        refine fs_iadd (p := 712) (by decide +kernel) rfl ?_
                                        obtain ⟨v201, w202, h⟩ := fx_bd h
                                        refine fs_iaload_s (p := 713) (by decide +kernel) rfl w202 ?_
                                        refine fs_aload_n_a (k := 0) (p := 714) (by decide +kernel) rfl rfl ?_
                                        refine fs_iload_n (k := 3) (p := 715) (by decide +kernel) rfl rfl ?_
                                        refine fs_iconst (n := 3) (p := 716) (by decide +kernel) rfl kc_3 ?_
                                        refine fs_iadd (p := 717) (by decide +kernel) rfl ?_
                                        obtain ⟨v204, w205, h⟩ := fx_bd h
                                        refine fs_iaload_s (p := 718) (by decide +kernel) rfl w205 ?_
                                        obtain ⟨q208, w207, h⟩ := fx_bd h
                                        refine fs_callV (idx := 84) (mj := 101) (ci := 9) (na := 3) (mx := 7) (p := 721) (args := [.ref 0, .int v198, .int v201, .int v204]) (rest := []) (al2 := [some (.ref 0), some (.int v198), some (.int v201), some (.int v204), none, none, none]) (by decide +kernel) rfl (by decide +kernel) fo_0 rfl rfl rfl rfl rfl rfl rfl (by omega) (fun d' hd' => fe_101 (by omega) w207) rfl ?_
                                        refine fs_pop (p := 722) (by decide +kernel) rfl rfl ?_
                                        refine fs_aload_n (k := 2) (p := 723) (by decide +kernel) rfl rfl ?_
                                        refine fs_aload_n_a (k := 0) (p := 724) (by decide +kernel) rfl rfl ?_
                                        refine fs_iload_n (k := 3) (p := 725) (by decide +kernel) rfl rfl ?_
                                        refine fs_iconst (n := 1) (p := 726) (by decide +kernel) rfl kc_1 ?_
                                        refine fs_iadd (p := 727) (by decide +kernel) rfl ?_
                                        obtain ⟨v209, w210, h⟩ := fx_bd h
                                        refine fs_iaload_s (p := 728) (by decide +kernel) rfl w210 ?_
                                        refine fs_aload_n_a (k := 0) (p := 729) (by decide +kernel) rfl rfl ?_
                                        refine fs_iload_n (k := 3) (p := 730) (by decide +kernel) rfl rfl ?_
                                        refine fs_iconst (n := 2) (p := 731) (by decide +kernel) rfl kc_2 ?_
                                        refine fs_iadd (p := 732) (by decide +kernel) rfl ?_
                                        obtain ⟨v211, w212, h⟩ := fx_bd h
                                        refine fs_iaload_s (p := 733) (by decide +kernel) rfl w212 ?_
                                        refine fs_aload_n_a (k := 0) (p := 734) (by decide +kernel) rfl rfl ?_
                                        refine fs_iload_n (k := 3) (p := 735) (by decide +kernel) rfl rfl ?_
                                        refine fs_iconst (n := 3) (p := 736) (by decide +kernel) rfl kc_3 ?_
                                        refine fs_iadd (p := 737) (by decide +kernel) rfl ?_
                                        obtain ⟨v213, w214, h⟩ := fx_bd h
                                        refine fs_iaload_s (p := 738) (by decide +kernel) rfl w214 ?_
                                        obtain ⟨q216, w215, h⟩ := fx_bd h
                                        refine fs_callV (idx := 87) (mj := 188) (ci := 10) (na := 3) (mx := 6) (p := 741) (args := [.ref 215, .int v209, .int v211, .int v213]) (rest := []) (al2 := [some (.ref 215), some (.int v209), some (.int v211), some (.int v213), none, none]) (by decide +kernel) rfl (by decide +kernel) fo_215 rfl rfl rfl rfl rfl rfl rfl (by omega) (fun d' hd' => fe_188 (by omega) w215) rfl ?_
                                        refine fs_pop (p := 742) (by decide +kernel) rfl rfl ?_
                                        refine fs_goto (off := 379) (p := 1121) (by decide +kernel) (by decide +kernel) ?_
                                        exact fe_236_1121 hd ih _ _ _ h
                                      · rw [if_neg c23] at h
                                        by_cases c24 : (v4 &&& (31 : Int32)) = (17 : Int32)
                                        · rw [if_pos c24] at h
                                          refine fs_tsw_h (dflt := 1088) (lo := 0) (hi := 28) (offs := #[131, 194, 217, 240, 263, 306, 339, 372, 395, 408, 421, 464, 497, 530, 583, 626, 669, 712, 745, 778, 811, 834, 887, 920, 963, 986, 1009, 1032, 1065]) (x := (v4 &&& (31 : Int32))) (j := 17) (t := 745) (by decide +kernel) (by decide +kernel) (by decide) (c24.trans (by decide)) ?_
                                          refine fs_aload_n (k := 1) (p := 746) (by decide +kernel) rfl rfl ?_
                                          refine fs_aload_n_a (k := 0) (p := 747) (by decide +kernel) rfl rfl ?_
                                          refine fs_iload_n (k := 3) (p := 748) (by decide +kernel) rfl rfl ?_
                                          refine fs_iconst (n := 1) (p := 749) (by decide +kernel) rfl kc_1 ?_
                                          refine fs_iadd (p := 750) (by decide +kernel) rfl ?_
                                          obtain ⟨v184, w185, h⟩ := fx_bd h
                                          refine fs_iaload_s (p := 751) (by decide +kernel) rfl w185 ?_
                                          refine fs_aload_n_a (k := 0) (p := 752) (by decide +kernel) rfl rfl ?_
                                          refine fs_iload_n (k := 3) (p := 753) (by decide +kernel) rfl rfl ?_
                                          refine fs_iconst (n := 2) (p := 754) (by decide +kernel) rfl kc_2 ?_
                                          refine fs_iadd (p := 755) (by decide +kernel) rfl ?_
                                          obtain ⟨v187, w188, h⟩ := fx_bd h
                                          refine fs_iaload_s (p := 756) (by decide +kernel) rfl w188 ?_
                                          obtain ⟨q191, w190, h⟩ := fx_bd h
                                          refine fs_callV (idx := 88) (mj := 102) (ci := 9) (na := 2) (mx := 5) (p := 759) (args := [.ref 0, .int v184, .int v187]) (rest := []) (al2 := [some (.ref 0), some (.int v184), some (.int v187), none, none]) (by decide +kernel) rfl (by decide +kernel) fo_0 rfl rfl rfl rfl rfl rfl rfl (by omega) (fun d' hd' => fe_102 (by omega) w190) rfl ?_
                                          refine fs_pop2 (p := 760) (by decide +kernel) rfl rfl ?_
                                          refine fs_aload_n (k := 2) (p := 761) (by decide +kernel) rfl rfl ?_
                                          refine fs_aload_n_a (k := 0) (p := 762) (by decide +kernel) rfl rfl ?_
                                          refine fs_iload_n (k := 3) (p := 763) (by decide +kernel) rfl rfl ?_
                                          refine fs_iconst (n := 1) (p := 764) (by decide +kernel) rfl kc_1 ?_
                                          refine fs_iadd (p := 765) (by decide +kernel) rfl ?_
                                          obtain ⟨v192, w193, h⟩ := fx_bd h
                                          refine fs_iaload_s (p := 766) (by decide +kernel) rfl w193 ?_
                                          refine fs_aload_n_a (k := 0) (p := 767) (by decide +kernel) rfl rfl ?_
                                          refine fs_iload_n (k := 3) (p := 768) (by decide +kernel) rfl rfl ?_
                                          refine fs_iconst (n := 2) (p := 769) (by decide +kernel) rfl kc_2 ?_
                                          refine fs_iadd (p := 770) (by decide +kernel) rfl ?_
                                          obtain ⟨v194, w195, h⟩ := fx_bd h
                                          refine fs_iaload_s (p := 771) (by decide +kernel) rfl w195 ?_
                                          obtain ⟨q197, w196, h⟩ := fx_bd h
                                          refine fs_callV (idx := 92) (mj := 210) (ci := 10) (na := 2) (mx := 3) (p := 774) (args := [.ref 215, .int v192, .int v194]) (rest := []) (al2 := [some (.ref 215), some (.int v192), some (.int v194)]) (by decide +kernel) rfl (by decide +kernel) fo_215 rfl rfl rfl rfl rfl rfl rfl (by omega) (fun d' hd' => fe_210 (by omega) w196) rfl ?_
                                          refine fs_pop2 (p := 775) (by decide +kernel) rfl rfl ?_
                                          refine fs_goto (off := 346) (p := 1121) (by decide +kernel) (by decide +kernel) ?_
                                          exact fe_236_1121 hd ih _ _ _ h
                                        · rw [if_neg c24] at h
                                          by_cases c25 : (v4 &&& (31 : Int32)) = (18 : Int32)
                                          · rw [if_pos c25] at h
                                            refine fs_tsw_h (dflt := 1088) (lo := 0) (hi := 28) (offs := #[131, 194, 217, 240, 263, 306, 339, 372, 395, 408, 421, 464, 497, 530, 583, 626, 669, 712, 745, 778, 811, 834, 887, 920, 963, 986, 1009, 1032, 1065]) (x := (v4 &&& (31 : Int32))) (j := 18) (t := 778) (by decide +kernel) (by decide +kernel) (by decide) (c25.trans (by decide)) ?_
                                            refine fs_aload_n (k := 1) (p := 779) (by decide +kernel) rfl rfl ?_
                                            refine fs_aload_n_a (k := 0) (p := 780) (by decide +kernel) rfl rfl ?_
                                            refine fs_iload_n (k := 3) (p := 781) (by decide +kernel) rfl rfl ?_
                                            refine fs_iconst (n := 1) (p := 782) (by decide +kernel) rfl kc_1 ?_
                                            refine fs_iadd (p := 783) (by decide +kernel) rfl ?_
                                            obtain ⟨v170, w171, h⟩ := fx_bd h
                                            refine fs_iaload_s (p := 784) (by decide +kernel) rfl w171 ?_
                                            refine fs_aload_n_a (k := 0) (p := 785) (by decide +kernel) rfl rfl ?_
                                            refine fs_iload_n (k := 3) (p := 786) (by decide +kernel) rfl rfl ?_
                                            refine fs_iconst (n := 2) (p := 787) (by decide +kernel) rfl kc_2 ?_
                                            refine fs_iadd (p := 788) (by decide +kernel) rfl ?_
                                            obtain ⟨v173, w174, h⟩ := fx_bd h
                                            refine fs_iaload_s (p := 789) (by decide +kernel) rfl w174 ?_
                                            obtain ⟨q177, w176, h⟩ := fx_bd h
                                            refine fs_callV (idx := 93) (mj := 103) (ci := 9) (na := 2) (mx := 3) (p := 792) (args := [.ref 0, .int v170, .int v173]) (rest := []) (al2 := [some (.ref 0), some (.int v170), some (.int v173)]) (by decide +kernel) rfl (by decide +kernel) fo_0 rfl rfl rfl rfl rfl rfl rfl (by omega) (fun d' hd' => fe_103 (by omega) w176) rfl ?_
                                            refine fs_pop (p := 793) (by decide +kernel) rfl rfl ?_
                                            refine fs_aload_n (k := 2) (p := 794) (by decide +kernel) rfl rfl ?_
                                            refine fs_aload_n_a (k := 0) (p := 795) (by decide +kernel) rfl rfl ?_
                                            refine fs_iload_n (k := 3) (p := 796) (by decide +kernel) rfl rfl ?_
                                            refine fs_iconst (n := 1) (p := 797) (by decide +kernel) rfl kc_1 ?_
                                            refine fs_iadd (p := 798) (by decide +kernel) rfl ?_
                                            obtain ⟨v178, w179, h⟩ := fx_bd h
                                            refine fs_iaload_s (p := 799) (by decide +kernel) rfl w179 ?_
                                            refine fs_aload_n_a (k := 0) (p := 800) (by decide +kernel) rfl rfl ?_
                                            refine fs_iload_n (k := 3) (p := 801) (by decide +kernel) rfl rfl ?_
                                            refine fs_iconst (n := 2) (p := 802) (by decide +kernel) rfl kc_2 ?_
                                            refine fs_iadd (p := 803) (by decide +kernel) rfl ?_
                                            obtain ⟨v180, w181, h⟩ := fx_bd h
                                            refine fs_iaload_s (p := 804) (by decide +kernel) rfl w181 ?_
                                            obtain ⟨q183, w182, h⟩ := fx_bd h
                                            refine fs_callV (idx := 96) (mj := 189) (ci := 10) (na := 2) (mx := 4) (p := 807) (args := [.ref 215, .int v178, .int v180]) (rest := []) (al2 := [some (.ref 215), some (.int v178), some (.int v180), none]) (by decide +kernel) rfl (by decide +kernel) fo_215 rfl rfl rfl rfl rfl rfl rfl (by omega) (fun d' hd' => fe_189 (by omega) w182) rfl ?_
                                            refine fs_pop (p := 808) (by decide +kernel) rfl rfl ?_
                                            refine fs_goto (off := 313) (p := 1121) (by decide +kernel) (by decide +kernel) ?_
                                            exact fe_236_1121 hd ih _ _ _ h
                                          · rw [if_neg c25] at h
                                            by_cases c26 : (v4 &&& (31 : Int32)) = (19 : Int32)
                                            · rw [if_pos c26] at h
                                              refine fs_tsw_h (dflt := 1088) (lo := 0) (hi := 28) (offs := #[131, 194, 217, 240, 263, 306, 339, 372, 395, 408, 421, 464, 497, 530, 583, 626, 669, 712, 745, 778, 811, 834, 887, 920, 963, 986, 1009, 1032, 1065]) (x := (v4 &&& (31 : Int32))) (j := 19) (t := 811) (by decide +kernel) (by decide +kernel) (by decide) (c26.trans (by decide)) ?_
                                              refine fs_aload_n (k := 1) (p := 812) (by decide +kernel) rfl rfl ?_
                                              refine fs_aload_n_a (k := 0) (p := 813) (by decide +kernel) rfl rfl ?_
                                              refine fs_iload_n (k := 3) (p := 814) (by decide +kernel) rfl rfl ?_
                                              refine fs_iconst (n := 1) (p := 815) (by decide +kernel) rfl kc_1 ?_
                                              refine fs_iadd (p := 816) (by decide +kernel) rfl ?_
                                              obtain ⟨v156, w157, h⟩ := fx_bd h
                                              refine fs_iaload_s (p := 817) (by decide +kernel) rfl w157 ?_
                                              refine fs_aload_n_a (k := 0) (p := 818) (by decide +kernel) rfl rfl ?_
                                              refine fs_iload_n (k := 3) (p := 819) (by decide +kernel) rfl rfl ?_
                                              refine fs_iconst (n := 2) (p := 820) (by decide +kernel) rfl kc_2 ?_
                                              refine fs_iadd (p := 821) (by decide +kernel) rfl ?_
                                              obtain ⟨v159, w160, h⟩ := fx_bd h
                                              refine fs_iaload_s (p := 822) (by decide +kernel) rfl w160 ?_
                                              obtain ⟨q163, w162, h⟩ := fx_bd h
                                              refine fs_callV (idx := 97) (mj := 104) (ci := 9) (na := 2) (mx := 3) (p := 825) (args := [.ref 0, .int v156, .int v159]) (rest := []) (al2 := [some (.ref 0), some (.int v156), some (.int v159)]) (by decide +kernel) rfl (by decide +kernel) fo_0 rfl rfl rfl rfl rfl rfl rfl (by omega) (fun d' hd' => fe_104 (by omega) w162) rfl ?_
                                              refine fs_pop (p := 826) (by decide +kernel) rfl rfl ?_
                                              refine fs_aload_n (k := 2) (p := 827) (by decide +kernel) rfl rfl ?_
                                              refine fs_aload_n_a (k := 0) (p := 828) (by decide +kernel) rfl rfl ?_
                                              refine fs_iload_n (k := 3) (p := 829) (by decide +kernel) rfl rfl ?_
                                              refine fs_iconst (n := 1) (p := 830) (by decide +kernel) rfl kc_1 ?_
                                              refine fs_iadd (p := 831) (by decide +kernel) rfl ?_
                                              obtain ⟨v164, w165, h⟩ := fx_bd h
                                              refine fs_iaload_s (p := 832) (by decide +kernel) rfl w165 ?_
                                              refine fs_aload_n_a (k := 0) (p := 833) (by decide +kernel) rfl rfl ?_
                                              refine fs_iload_n (k := 3) (p := 834) (by decide +kernel) rfl rfl ?_
                                              refine fs_iconst (n := 2) (p := 835) (by decide +kernel) rfl kc_2 ?_
                                              refine fs_iadd (p := 836) (by decide +kernel) rfl ?_
                                              obtain ⟨v166, w167, h⟩ := fx_bd h
                                              refine fs_iaload_s (p := 837) (by decide +kernel) rfl w167 ?_
                                              obtain ⟨q169, w168, h⟩ := fx_bd h
                                              refine fs_callV (idx := 100) (mj := 192) (ci := 10) (na := 2) (mx := 3) (p := 840) (args := [.ref 215, .int v164, .int v166]) (rest := []) (al2 := [some (.ref 215), some (.int v164), some (.int v166)]) (by decide +kernel) rfl (by decide +kernel) fo_215 rfl rfl rfl rfl rfl rfl rfl (by omega) (fun d' hd' => fe_192 (by omega) w168) rfl ?_
                                              refine fs_pop (p := 841) (by decide +kernel) rfl rfl ?_
                                              refine fs_goto (off := 280) (p := 1121) (by decide +kernel) (by decide +kernel) ?_
                                              exact fe_236_1121 hd ih _ _ _ h
                                            · rw [if_neg c26] at h
                                              by_cases c27 : (v4 &&& (31 : Int32)) = (20 : Int32)
                                              · rw [if_pos c27] at h
                                                refine fs_tsw_h (dflt := 1088) (lo := 0) (hi := 28) (offs := #[131, 194, 217, 240, 263, 306, 339, 372, 395, 408, 421, 464, 497, 530, 583, 626, 669, 712, 745, 778, 811, 834, 887, 920, 963, 986, 1009, 1032, 1065]) (x := (v4 &&& (31 : Int32))) (j := 20) (t := 844) (by decide +kernel) (by decide +kernel) (by decide) (c27.trans (by decide)) ?_
                                                refine fs_aload_n (k := 1) (p := 845) (by decide +kernel) rfl rfl ?_
                                                refine fs_aload_n_a (k := 0) (p := 846) (by decide +kernel) rfl rfl ?_
                                                refine fs_iload_n (k := 3) (p := 847) (by decide +kernel) rfl rfl ?_
                                                refine fs_iconst (n := 1) (p := 848) (by decide +kernel) rfl kc_1 ?_
                                                refine fs_iadd (p := 849) (by decide +kernel) rfl ?_
                                                obtain ⟨v147, w148, h⟩ := fx_bd h
                                                refine fs_iaload_s (p := 850) (by decide +kernel) rfl w148 ?_
                                                obtain ⟨q151, w150, h⟩ := fx_bd h
                                                refine fs_callV (idx := 101) (mj := 105) (ci := 9) (na := 1) (mx := 5) (p := 853) (args := [.ref 0, .int v147]) (rest := []) (al2 := [some (.ref 0), some (.int v147), none, none, none]) (by decide +kernel) rfl (by decide +kernel) fo_0 rfl rfl rfl rfl rfl rfl rfl (by omega) (fun d' hd' => fe_105 (by omega) w150) rfl ?_
                                                refine fs_pop (p := 854) (by decide +kernel) rfl rfl ?_
                                                refine fs_aload_n (k := 2) (p := 855) (by decide +kernel) rfl rfl ?_
                                                refine fs_aload_n_a (k := 0) (p := 856) (by decide +kernel) rfl rfl ?_
                                                refine fs_iload_n (k := 3) (p := 857) (by decide +kernel) rfl rfl ?_
                                                refine fs_iconst (n := 1) (p := 858) (by decide +kernel) rfl kc_1 ?_
                                                refine fs_iadd (p := 859) (by decide +kernel) rfl ?_
                                                obtain ⟨v152, w153, h⟩ := fx_bd h
                                                refine fs_iaload_s (p := 860) (by decide +kernel) rfl w153 ?_
                                                obtain ⟨q155, w154, h⟩ := fx_bd h
                                                refine fs_callV (idx := 104) (mj := 193) (ci := 10) (na := 1) (mx := 4) (p := 863) (args := [.ref 215, .int v152]) (rest := []) (al2 := [some (.ref 215), some (.int v152), none, none]) (by decide +kernel) rfl (by decide +kernel) fo_215 rfl rfl rfl rfl rfl rfl rfl (by omega) (fun d' hd' => fe_193 (by omega) w154) rfl ?_
                                                refine fs_pop (p := 864) (by decide +kernel) rfl rfl ?_
                                                refine fs_goto (off := 257) (p := 1121) (by decide +kernel) (by decide +kernel) ?_
                                                exact fe_236_1121 hd ih _ _ _ h
                                              · rw [if_neg c27] at h
                                                by_cases c28 : (v4 &&& (31 : Int32)) = (21 : Int32)
                                                · rw [if_pos c28] at h
                                                  refine fs_tsw_h (dflt := 1088) (lo := 0) (hi := 28) (offs := #[131, 194, 217, 240, 263, 306, 339, 372, 395, 408, 421, 464, 497, 530, 583, 626, 669, 712, 745, 778, 811, 834, 887, 920, 963, 986, 1009, 1032, 1065]) (x := (v4 &&& (31 : Int32))) (j := 21) (t := 867) (by decide +kernel) (by decide +kernel) (by decide) (c28.trans (by decide)) ?_
                                                  refine fs_aload_n (k := 1) (p := 868) (by decide +kernel) rfl rfl ?_
                                                  refine fs_aload_n_a (k := 0) (p := 869) (by decide +kernel) rfl rfl ?_
                                                  refine fs_iload_n (k := 3) (p := 870) (by decide +kernel) rfl rfl ?_
                                                  refine fs_iconst (n := 1) (p := 871) (by decide +kernel) rfl kc_1 ?_
                                                  refine fs_iadd (p := 872) (by decide +kernel) rfl ?_
                                                  obtain ⟨v123, w124, h⟩ := fx_bd h
                                                  refine fs_iaload_s (p := 873) (by decide +kernel) rfl w124 ?_
                                                  refine fs_aload_n_a (k := 0) (p := 874) (by decide +kernel) rfl rfl ?_
                                                  refine fs_iload_n (k := 3) (p := 875) (by decide +kernel) rfl rfl ?_
                                                  refine fs_iconst (n := 2) (p := 876) (by decide +kernel) rfl kc_2 ?_
                                                  refine fs_iadd (p := 877) (by decide +kernel) rfl ?_
                                                  obtain ⟨v126, w127, h⟩ := fx_bd h
                                                  refine fs_iaload_s (p := 878) (by decide +kernel) rfl w127 ?_
                                                  refine fs_aload_n_a (k := 0) (p := 879) (by decide +kernel) rfl rfl ?_
                                                  refine fs_iload_n (k := 3) (p := 880) (by decide +kernel) rfl rfl ?_
                                                  refine fs_iconst (n := 3) (p := 881) (by decide +kernel) rfl kc_3 ?_
                                                  refine fs_iadd (p := 882) (by decide +kernel) rfl ?_
                                                  obtain ⟨v129, w130, h⟩ := fx_bd h
                                                  refine fs_iaload_s (p := 883) (by decide +kernel) rfl w130 ?_
                                                  refine fs_aload_n_a (k := 0) (p := 884) (by decide +kernel) rfl rfl ?_
                                                  refine fs_iload_n (k := 3) (p := 885) (by decide +kernel) rfl rfl ?_
                                                  refine fs_iconst (n := 4) (p := 886) (by decide +kernel) rfl kc_4 ?_
                                                  refine fs_iadd (p := 887) (by decide +kernel) rfl ?_
                                                  obtain ⟨v132, w133, h⟩ := fx_bd h
                                                  refine fs_iaload_s (p := 888) (by decide +kernel) rfl w133 ?_
                                                  obtain ⟨q136, w135, h⟩ := fx_bd h
                                                  refine fs_callV (idx := 105) (mj := 106) (ci := 9) (na := 4) (mx := 7) (p := 891) (args := [.ref 0, .int v123, .int v126, .int v129, .int v132]) (rest := []) (al2 := [some (.ref 0), some (.int v123), some (.int v126), some (.int v129), some (.int v132), none, none]) (by decide +kernel) rfl (by decide +kernel) fo_0 rfl rfl rfl rfl rfl rfl rfl (by omega) (fun d' hd' => fe_106 (by omega) w135) rfl ?_
                                                  refine fs_pop2 (p := 892) (by decide +kernel) rfl rfl ?_
                                                  refine fs_aload_n (k := 2) (p := 893) (by decide +kernel) rfl rfl ?_
                                                  refine fs_aload_n_a (k := 0) (p := 894) (by decide +kernel) rfl rfl ?_
                                                  refine fs_iload_n (k := 3) (p := 895) (by decide +kernel) rfl rfl ?_
                                                  refine fs_iconst (n := 1) (p := 896) (by decide +kernel) rfl kc_1 ?_
                                                  refine fs_iadd (p := 897) (by decide +kernel) rfl ?_
                                                  obtain ⟨v137, w138, h⟩ := fx_bd h
                                                  refine fs_iaload_s (p := 898) (by decide +kernel) rfl w138 ?_
                                                  refine fs_aload_n_a (k := 0) (p := 899) (by decide +kernel) rfl rfl ?_
                                                  refine fs_iload_n (k := 3) (p := 900) (by decide +kernel) rfl rfl ?_
                                                  refine fs_iconst (n := 2) (p := 901) (by decide +kernel) rfl kc_2 ?_
                                                  refine fs_iadd (p := 902) (by decide +kernel) rfl ?_
                                                  obtain ⟨v139, w140, h⟩ := fx_bd h
                                                  refine fs_iaload_s (p := 903) (by decide +kernel) rfl w140 ?_
                                                  refine fs_aload_n_a (k := 0) (p := 904) (by decide +kernel) rfl rfl ?_
                                                  refine fs_iload_n (k := 3) (p := 905) (by decide +kernel) rfl rfl ?_
                                                  refine fs_iconst (n := 3) (p := 906) (by decide +kernel) rfl kc_3 ?_
                                                  refine fs_iadd (p := 907) (by decide +kernel) rfl ?_
                                                  obtain ⟨v141, w142, h⟩ := fx_bd h
                                                  refine fs_iaload_s (p := 908) (by decide +kernel) rfl w142 ?_
                                                  refine fs_aload_n_a (k := 0) (p := 909) (by decide +kernel) rfl rfl ?_
                                                  refine fs_iload_n (k := 3) (p := 910) (by decide +kernel) rfl rfl ?_
                                                  refine fs_iconst (n := 4) (p := 911) (by decide +kernel) rfl kc_4 ?_
                                                  refine fs_iadd (p := 912) (by decide +kernel) rfl ?_
                                                  obtain ⟨v143, w144, h⟩ := fx_bd h
                                                  refine fs_iaload_s (p := 913) (by decide +kernel) rfl w144 ?_
                                                  obtain ⟨q146, w145, h⟩ := fx_bd h
                                                  refine fs_callV (idx := 109) (mj := 199) (ci := 10) (na := 4) (mx := 6) (p := 916) (args := [.ref 215, .int v137, .int v139, .int v141, .int v143]) (rest := []) (al2 := [some (.ref 215), some (.int v137), some (.int v139), some (.int v141), some (.int v143), none]) (by decide +kernel) rfl (by decide +kernel) fo_215 rfl rfl rfl rfl rfl rfl rfl (by omega) (fun d' hd' => fe_199 (by omega) w145) rfl ?_
                                                  refine fs_pop2 (p := 917) (by decide +kernel) rfl rfl ?_
                                                  refine fs_goto (off := 204) (p := 1121) (by decide +kernel) (by decide +kernel) ?_
                                                  exact fe_236_1121 hd ih _ _ _ h
                                                · rw [if_neg c28] at h
                                                  by_cases c29 : (v4 &&& (31 : Int32)) = (22 : Int32)
                                                  · rw [if_pos c29] at h
                                                    refine fs_tsw_h (dflt := 1088) (lo := 0) (hi := 28) (offs := #[131, 194, 217, 240, 263, 306, 339, 372, 395, 408, 421, 464, 497, 530, 583, 626, 669, 712, 745, 778, 811, 834, 887, 920, 963, 986, 1009, 1032, 1065]) (x := (v4 &&& (31 : Int32))) (j := 22) (t := 920) (by decide +kernel) (by decide +kernel) (by decide) (c29.trans (by decide)) ?_
                                                    refine fs_aload_n (k := 1) (p := 921) (by decide +kernel) rfl rfl ?_
                                                    refine fs_aload_n_a (k := 0) (p := 922) (by decide +kernel) rfl rfl ?_
                                                    refine fs_iload_n (k := 3) (p := 923) (by decide +kernel) rfl rfl ?_
                                                    refine fs_iconst (n := 1) (p := 924) (by decide +kernel) rfl kc_1 ?_
                                                    refine fs_iadd (p := 925) (by decide +kernel) rfl ?_
                                                    obtain ⟨v109, w110, h⟩ := fx_bd h
                                                    refine fs_iaload_s (p := 926) (by decide +kernel) rfl w110 ?_
                                                    refine fs_aload_n_a (k := 0) (p := 927) (by decide +kernel) rfl rfl ?_
                                                    refine fs_iload_n (k := 3) (p := 928) (by decide +kernel) rfl rfl ?_
                                                    refine fs_iconst (n := 2) (p := 929) (by decide +kernel) rfl kc_2 ?_
                                                    refine fs_iadd (p := 930) (by decide +kernel) rfl ?_
                                                    obtain ⟨v112, w113, h⟩ := fx_bd h
                                                    refine fs_iaload_s (p := 931) (by decide +kernel) rfl w113 ?_
                                                    obtain ⟨q116, w115, h⟩ := fx_bd h
                                                    refine fs_callV (idx := 110) (mj := 107) (ci := 9) (na := 2) (mx := 6) (p := 934) (args := [.ref 0, .int v109, .int v112]) (rest := []) (al2 := [some (.ref 0), some (.int v109), some (.int v112), none, none, none]) (by decide +kernel) rfl (by decide +kernel) fo_0 rfl rfl rfl rfl rfl rfl rfl (by omega) (fun d' hd' => fe_107 (by omega) w115) rfl ?_
                                                    refine fs_pop (p := 935) (by decide +kernel) rfl rfl ?_
                                                    refine fs_aload_n (k := 2) (p := 936) (by decide +kernel) rfl rfl ?_
                                                    refine fs_aload_n_a (k := 0) (p := 937) (by decide +kernel) rfl rfl ?_
                                                    refine fs_iload_n (k := 3) (p := 938) (by decide +kernel) rfl rfl ?_
                                                    refine fs_iconst (n := 1) (p := 939) (by decide +kernel) rfl kc_1 ?_
                                                    refine fs_iadd (p := 940) (by decide +kernel) rfl ?_
                                                    obtain ⟨v117, w118, h⟩ := fx_bd h
                                                    refine fs_iaload_s (p := 941) (by decide +kernel) rfl w118 ?_
                                                    refine fs_aload_n_a (k := 0) (p := 942) (by decide +kernel) rfl rfl ?_
                                                    refine fs_iload_n (k := 3) (p := 943) (by decide +kernel) rfl rfl ?_
                                                    refine fs_iconst (n := 2) (p := 944) (by decide +kernel) rfl kc_2 ?_
                                                    refine fs_iadd (p := 945) (by decide +kernel) rfl ?_
                                                    obtain ⟨v119, w120, h⟩ := fx_bd h
                                                    refine fs_iaload_s (p := 946) (by decide +kernel) rfl w120 ?_
                                                    obtain ⟨q122, w121, h⟩ := fx_bd h
                                                    refine fs_callV (idx := 113) (mj := 201) (ci := 10) (na := 2) (mx := 6) (p := 949) (args := [.ref 215, .int v117, .int v119]) (rest := []) (al2 := [some (.ref 215), some (.int v117), some (.int v119), none, none, none]) (by decide +kernel) rfl (by decide +kernel) fo_215 rfl rfl rfl rfl rfl rfl rfl (by omega) (fun d' hd' => fe_201 (by omega) w121) rfl ?_
                                                    refine fs_pop (p := 950) (by decide +kernel) rfl rfl ?_
                                                    refine fs_goto (off := 171) (p := 1121) (by decide +kernel) (by decide +kernel) ?_
                                                    exact fe_236_1121 hd ih _ _ _ h
                                                  · rw [if_neg c29] at h
                                                    by_cases c30 : (v4 &&& (31 : Int32)) = (23 : Int32)
                                                    · rw [if_pos c30] at h
                                                      refine fs_tsw_h (dflt := 1088) (lo := 0) (hi := 28) (offs := #[131, 194, 217, 240, 263, 306, 339, 372, 395, 408, 421, 464, 497, 530, 583, 626, 669, 712, 745, 778, 811, 834, 887, 920, 963, 986, 1009, 1032, 1065]) (x := (v4 &&& (31 : Int32))) (j := 23) (t := 953) (by decide +kernel) (by decide +kernel) (by decide) (c30.trans (by decide)) ?_
                                                      refine fs_aload_n (k := 1) (p := 954) (by decide +kernel) rfl rfl ?_
                                                      refine fs_aload_n_a (k := 0) (p := 955) (by decide +kernel) rfl rfl ?_
                                                      refine fs_iload_n (k := 3) (p := 956) (by decide +kernel) rfl rfl ?_
                                                      refine fs_iconst (n := 1) (p := 957) (by decide +kernel) rfl kc_1 ?_
                                                      refine fs_iadd (p := 958) (by decide +kernel) rfl ?_
                                                      obtain ⟨v90, w91, h⟩ := fx_bd h
                                                      refine fs_iaload_s (p := 959) (by decide +kernel) rfl w91 ?_
                                                      refine fs_aload_n_a (k := 0) (p := 960) (by decide +kernel) rfl rfl ?_
                                                      refine fs_iload_n (k := 3) (p := 961) (by decide +kernel) rfl rfl ?_
                                                      refine fs_iconst (n := 2) (p := 962) (by decide +kernel) rfl kc_2 ?_
                                                      refine fs_iadd (p := 963) (by decide +kernel) rfl ?_
                                                      obtain ⟨v93, w94, h⟩ := fx_bd h
                                                      refine fs_iaload_s (p := 964) (by decide +kernel) rfl w94 ?_
                                                      refine fs_aload_n_a (k := 0) (p := 965) (by decide +kernel) rfl rfl ?_
                                                      refine fs_iload_n (k := 3) (p := 966) (by decide +kernel) rfl rfl ?_
                                                      refine fs_iconst (n := 3) (p := 967) (by decide +kernel) rfl kc_3 ?_
                                                      refine fs_iadd (p := 968) (by decide +kernel) rfl ?_
                                                      obtain ⟨v96, w97, h⟩ := fx_bd h
                                                      refine fs_iaload_s (p := 969) (by decide +kernel) rfl w97 ?_
                                                      obtain ⟨q100, w99, h⟩ := fx_bd h
                                                      refine fs_callV (idx := 114) (mj := 108) (ci := 9) (na := 3) (mx := 8) (p := 972) (args := [.ref 0, .int v90, .int v93, .int v96]) (rest := []) (al2 := [some (.ref 0), some (.int v90), some (.int v93), some (.int v96), none, none, none, none]) (by decide +kernel) rfl (by decide +kernel) fo_0 rfl rfl rfl rfl rfl rfl rfl (by omega) (fun d' hd' => fe_108 (by omega) w99) rfl ?_
                                                      refine fs_pop2 (p := 973) (by decide +kernel) rfl rfl ?_
                                                      refine fs_aload_n (k := 2) (p := 974) (by decide +kernel) rfl rfl ?_
                                                      refine fs_aload_n_a (k := 0) (p := 975) (by decide +kernel) rfl rfl ?_
                                                      refine fs_iload_n (k := 3) (p := 976) (by decide +kernel) rfl rfl ?_
                                                      refine fs_iconst (n := 1) (p := 977) (by decide +kernel) rfl kc_1 ?_
                                                      refine fs_iadd (p := 978) (by decide +kernel) rfl ?_
                                                      obtain ⟨v101, w102, h⟩ := fx_bd h
                                                      refine fs_iaload_s (p := 979) (by decide +kernel) rfl w102 ?_
                                                      refine fs_aload_n_a (k := 0) (p := 980) (by decide +kernel) rfl rfl ?_
                                                      refine fs_iload_n (k := 3) (p := 981) (by decide +kernel) rfl rfl ?_
                                                      refine fs_iconst (n := 2) (p := 982) (by decide +kernel) rfl kc_2 ?_
                                                      refine fs_iadd (p := 983) (by decide +kernel) rfl ?_
                                                      obtain ⟨v103, w104, h⟩ := fx_bd h
                                                      refine fs_iaload_s (p := 984) (by decide +kernel) rfl w104 ?_
                                                      refine fs_aload_n_a (k := 0) (p := 985) (by decide +kernel) rfl rfl ?_
                                                      refine fs_iload_n (k := 3) (p := 986) (by decide +kernel) rfl rfl ?_
                                                      refine fs_iconst (n := 3) (p := 987) (by decide +kernel) rfl kc_3 ?_
                                                      refine fs_iadd (p := 988) (by decide +kernel) rfl ?_
                                                      obtain ⟨v105, w106, h⟩ := fx_bd h
                                                      refine fs_iaload_s (p := 989) (by decide +kernel) rfl w106 ?_
                                                      obtain ⟨q108, w107, h⟩ := fx_bd h
                                                      refine fs_callV (idx := 117) (mj := 203) (ci := 10) (na := 3) (mx := 6) (p := 992) (args := [.ref 215, .int v101, .int v103, .int v105]) (rest := []) (al2 := [some (.ref 215), some (.int v101), some (.int v103), some (.int v105), none, none]) (by decide +kernel) rfl (by decide +kernel) fo_215 rfl rfl rfl rfl rfl rfl rfl (by omega) (fun d' hd' => fe_203 (by omega) w107) rfl ?_
                                                      refine fs_pop2 (p := 993) (by decide +kernel) rfl rfl ?_
                                                      refine fs_goto (off := 128) (p := 1121) (by decide +kernel) (by decide +kernel) ?_
                                                      exact fe_236_1121 hd ih _ _ _ h
                                                    · rw [if_neg c30] at h
                                                      by_cases c31 : (v4 &&& (31 : Int32)) = (24 : Int32)
                                                      · rw [if_pos c31] at h
                                                        refine fs_tsw_h (dflt := 1088) (lo := 0) (hi := 28) (offs := #[131, 194, 217, 240, 263, 306, 339, 372, 395, 408, 421, 464, 497, 530, 583, 626, 669, 712, 745, 778, 811, 834, 887, 920, 963, 986, 1009, 1032, 1065]) (x := (v4 &&& (31 : Int32))) (j := 24) (t := 996) (by decide +kernel) (by decide +kernel) (by decide) (c31.trans (by decide)) ?_
                                                        refine fs_aload_n (k := 1) (p := 997) (by decide +kernel) rfl rfl ?_
                                                        refine fs_aload_n_a (k := 0) (p := 998) (by decide +kernel) rfl rfl ?_
                                                        refine fs_iload_n (k := 3) (p := 999) (by decide +kernel) rfl rfl ?_
                                                        refine fs_iconst (n := 1) (p := 1000) (by decide +kernel) rfl kc_1 ?_
                                                        refine fs_iadd (p := 1001) (by decide +kernel) rfl ?_
                                                        obtain ⟨v81, w82, h⟩ := fx_bd h
                                                        refine fs_iaload_s (p := 1002) (by decide +kernel) rfl w82 ?_
                                                        obtain ⟨q85, w84, h⟩ := fx_bd h
                                                        refine fs_callV (idx := 118) (mj := 109) (ci := 9) (na := 1) (mx := 7) (p := 1005) (args := [.ref 0, .int v81]) (rest := []) (al2 := [some (.ref 0), some (.int v81), none, none, none, none, none]) (by decide +kernel) rfl (by decide +kernel) fo_0 rfl rfl rfl rfl rfl rfl rfl (by omega) (fun d' hd' => fe_109 (by omega) w84) rfl ?_
                                                        refine fs_pop2 (p := 1006) (by decide +kernel) rfl rfl ?_
                                                        refine fs_aload_n (k := 2) (p := 1007) (by decide +kernel) rfl rfl ?_
                                                        refine fs_aload_n_a (k := 0) (p := 1008) (by decide +kernel) rfl rfl ?_
                                                        refine fs_iload_n (k := 3) (p := 1009) (by decide +kernel) rfl rfl ?_
                                                        refine fs_iconst (n := 1) (p := 1010) (by decide +kernel) rfl kc_1 ?_
                                                        refine fs_iadd (p := 1011) (by decide +kernel) rfl ?_
                                                        obtain ⟨v86, w87, h⟩ := fx_bd h
                                                        refine fs_iaload_s (p := 1012) (by decide +kernel) rfl w87 ?_
                                                        obtain ⟨q89, w88, h⟩ := fx_bd h
                                                        refine fs_callV (idx := 122) (mj := 204) (ci := 10) (na := 1) (mx := 8) (p := 1015) (args := [.ref 215, .int v86]) (rest := []) (al2 := [some (.ref 215), some (.int v86), none, none, none, none, none, none]) (by decide +kernel) rfl (by decide +kernel) fo_215 rfl rfl rfl rfl rfl rfl rfl (by omega) (fun d' hd' => fe_204 (by omega) w88) rfl ?_
                                                        refine fs_pop2 (p := 1016) (by decide +kernel) rfl rfl ?_
                                                        refine fs_goto (off := 105) (p := 1121) (by decide +kernel) (by decide +kernel) ?_
                                                        exact fe_236_1121 hd ih _ _ _ h
                                                      · rw [if_neg c31] at h
                                                        by_cases c32 : (v4 &&& (31 : Int32)) = (25 : Int32)
                                                        · rw [if_pos c32] at h
                                                          refine fs_tsw_h (dflt := 1088) (lo := 0) (hi := 28) (offs := #[131, 194, 217, 240, 263, 306, 339, 372, 395, 408, 421, 464, 497, 530, 583, 626, 669, 712, 745, 778, 811, 834, 887, 920, 963, 986, 1009, 1032, 1065]) (x := (v4 &&& (31 : Int32))) (j := 25) (t := 1019) (by decide +kernel) (by decide +kernel) (by decide) (c32.trans (by decide)) ?_
                                                          refine fs_aload_n (k := 1) (p := 1020) (by decide +kernel) rfl rfl ?_
                                                          refine fs_aload_n_a (k := 0) (p := 1021) (by decide +kernel) rfl rfl ?_
                                                          refine fs_iload_n (k := 3) (p := 1022) (by decide +kernel) rfl rfl ?_
                                                          refine fs_iconst (n := 1) (p := 1023) (by decide +kernel) rfl kc_1 ?_
                                                          refine fs_iadd (p := 1024) (by decide +kernel) rfl ?_
                                                          obtain ⟨v72, w73, h⟩ := fx_bd h
                                                          refine fs_iaload_s (p := 1025) (by decide +kernel) rfl w73 ?_
                                                          obtain ⟨q76, w75, h⟩ := fx_bd h
                                                          refine fs_callV (idx := 123) (mj := 110) (ci := 9) (na := 1) (mx := 4) (p := 1028) (args := [.ref 0, .int v72]) (rest := []) (al2 := [some (.ref 0), some (.int v72), none, none]) (by decide +kernel) rfl (by decide +kernel) fo_0 rfl rfl rfl rfl rfl rfl rfl (by omega) (fun d' hd' => fe_110 (by omega) w75) rfl ?_
                                                          refine fs_pop (p := 1029) (by decide +kernel) rfl rfl ?_
                                                          refine fs_aload_n (k := 2) (p := 1030) (by decide +kernel) rfl rfl ?_
                                                          refine fs_aload_n_a (k := 0) (p := 1031) (by decide +kernel) rfl rfl ?_
                                                          refine fs_iload_n (k := 3) (p := 1032) (by decide +kernel) rfl rfl ?_
                                                          refine fs_iconst (n := 1) (p := 1033) (by decide +kernel) rfl kc_1 ?_
                                                          refine fs_iadd (p := 1034) (by decide +kernel) rfl ?_
                                                          obtain ⟨v77, w78, h⟩ := fx_bd h
                                                          refine fs_iaload_s (p := 1035) (by decide +kernel) rfl w78 ?_
                                                          obtain ⟨q80, w79, h⟩ := fx_bd h
                                                          refine fs_callV (idx := 126) (mj := 223) (ci := 10) (na := 1) (mx := 4) (p := 1038) (args := [.ref 215, .int v77]) (rest := []) (al2 := [some (.ref 215), some (.int v77), none, none]) (by decide +kernel) rfl (by decide +kernel) fo_215 rfl rfl rfl rfl rfl rfl rfl (by omega) (fun d' hd' => fe_223 (by omega) w79) rfl ?_
                                                          refine fs_pop (p := 1039) (by decide +kernel) rfl rfl ?_
                                                          refine fs_goto (off := 82) (p := 1121) (by decide +kernel) (by decide +kernel) ?_
                                                          exact fe_236_1121 hd ih _ _ _ h
                                                        · rw [if_neg c32] at h
                                                          by_cases c33 : (v4 &&& (31 : Int32)) = (26 : Int32)
                                                          · rw [if_pos c33] at h
                                                            refine fs_tsw_h (dflt := 1088) (lo := 0) (hi := 28) (offs := #[131, 194, 217, 240, 263, 306, 339, 372, 395, 408, 421, 464, 497, 530, 583, 626, 669, 712, 745, 778, 811, 834, 887, 920, 963, 986, 1009, 1032, 1065]) (x := (v4 &&& (31 : Int32))) (j := 26) (t := 1042) (by decide +kernel) (by decide +kernel) (by decide) (c33.trans (by decide)) ?_
                                                            refine fs_aload_n (k := 1) (p := 1043) (by decide +kernel) rfl rfl ?_
                                                            refine fs_aload_n_a (k := 0) (p := 1044) (by decide +kernel) rfl rfl ?_
                                                            refine fs_iload_n (k := 3) (p := 1045) (by decide +kernel) rfl rfl ?_
                                                            refine fs_iconst (n := 1) (p := 1046) (by decide +kernel) rfl kc_1 ?_
                                                            refine fs_iadd (p := 1047) (by decide +kernel) rfl ?_
                                                            obtain ⟨v63, w64, h⟩ := fx_bd h
                                                            refine fs_iaload_s (p := 1048) (by decide +kernel) rfl w64 ?_
                                                            obtain ⟨q67, w66, h⟩ := fx_bd h
                                                            refine fs_callV (idx := 127) (mj := 111) (ci := 9) (na := 1) (mx := 2) (p := 1051) (args := [.ref 0, .int v63]) (rest := []) (al2 := [some (.ref 0), some (.int v63)]) (by decide +kernel) rfl (by decide +kernel) fo_0 rfl rfl rfl rfl rfl rfl rfl (by omega) (fun d' hd' => fe_111 (by omega) w66) rfl ?_
                                                            refine fs_pop (p := 1052) (by decide +kernel) rfl rfl ?_
                                                            refine fs_aload_n (k := 2) (p := 1053) (by decide +kernel) rfl rfl ?_
                                                            refine fs_aload_n_a (k := 0) (p := 1054) (by decide +kernel) rfl rfl ?_
                                                            refine fs_iload_n (k := 3) (p := 1055) (by decide +kernel) rfl rfl ?_
                                                            refine fs_iconst (n := 1) (p := 1056) (by decide +kernel) rfl kc_1 ?_
                                                            refine fs_iadd (p := 1057) (by decide +kernel) rfl ?_
                                                            obtain ⟨v68, w69, h⟩ := fx_bd h
                                                            refine fs_iaload_s (p := 1058) (by decide +kernel) rfl w69 ?_
                                                            obtain ⟨q71, w70, h⟩ := fx_bd h
                                                            refine fs_callV (idx := 130) (mj := 226) (ci := 10) (na := 1) (mx := 2) (p := 1061) (args := [.ref 215, .int v68]) (rest := []) (al2 := [some (.ref 215), some (.int v68)]) (by decide +kernel) rfl (by decide +kernel) fo_215 rfl rfl rfl rfl rfl rfl rfl (by omega) (fun d' hd' => fe_226 (by omega) w70) rfl ?_
                                                            refine fs_pop (p := 1062) (by decide +kernel) rfl rfl ?_
                                                            refine fs_goto (off := 59) (p := 1121) (by decide +kernel) (by decide +kernel) ?_
                                                            exact fe_236_1121 hd ih _ _ _ h
                                                          · rw [if_neg c33] at h
                                                            by_cases c34 : (v4 &&& (31 : Int32)) = (27 : Int32)
                                                            · rw [if_pos c34] at h
                                                              refine fs_tsw_h (dflt := 1088) (lo := 0) (hi := 28) (offs := #[131, 194, 217, 240, 263, 306, 339, 372, 395, 408, 421, 464, 497, 530, 583, 626, 669, 712, 745, 778, 811, 834, 887, 920, 963, 986, 1009, 1032, 1065]) (x := (v4 &&& (31 : Int32))) (j := 27) (t := 1065) (by decide +kernel) (by decide +kernel) (by decide) (c34.trans (by decide)) ?_
                                                              refine fs_aload_n (k := 1) (p := 1066) (by decide +kernel) rfl rfl ?_
                                                              refine fs_aload_n_a (k := 0) (p := 1067) (by decide +kernel) rfl rfl ?_
                                                              refine fs_iload_n (k := 3) (p := 1068) (by decide +kernel) rfl rfl ?_
                                                              refine fs_iconst (n := 1) (p := 1069) (by decide +kernel) rfl kc_1 ?_
                                                              refine fs_iadd (p := 1070) (by decide +kernel) rfl ?_
                                                              obtain ⟨v49, w50, h⟩ := fx_bd h
                                                              refine fs_iaload_s (p := 1071) (by decide +kernel) rfl w50 ?_
                                                              refine fs_aload_n_a (k := 0) (p := 1072) (by decide +kernel) rfl rfl ?_
                                                              refine fs_iload_n (k := 3) (p := 1073) (by decide +kernel) rfl rfl ?_
                                                              refine fs_iconst (n := 2) (p := 1074) (by decide +kernel) rfl kc_2 ?_
                                                              refine fs_iadd (p := 1075) (by decide +kernel) rfl ?_
                                                              obtain ⟨v52, w53, h⟩ := fx_bd h
                                                              refine fs_iaload_s (p := 1076) (by decide +kernel) rfl w53 ?_
                                                              obtain ⟨q56, w55, h⟩ := fx_bd h
                                                              refine fs_callV (idx := 131) (mj := 112) (ci := 9) (na := 2) (mx := 3) (p := 1079) (args := [.ref 0, .int v49, .int v52]) (rest := []) (al2 := [some (.ref 0), some (.int v49), some (.int v52)]) (by decide +kernel) rfl (by decide +kernel) fo_0 rfl rfl rfl rfl rfl rfl rfl (by omega) (fun d' hd' => fe_112 (by omega) w55) rfl ?_
                                                              refine fs_pop (p := 1080) (by decide +kernel) rfl rfl ?_
                                                              refine fs_aload_n (k := 2) (p := 1081) (by decide +kernel) rfl rfl ?_
                                                              refine fs_aload_n_a (k := 0) (p := 1082) (by decide +kernel) rfl rfl ?_
                                                              refine fs_iload_n (k := 3) (p := 1083) (by decide +kernel) rfl rfl ?_
                                                              refine fs_iconst (n := 1) (p := 1084) (by decide +kernel) rfl kc_1 ?_
                                                              refine fs_iadd (p := 1085) (by decide +kernel) rfl ?_
                                                              obtain ⟨v57, w58, h⟩ := fx_bd h
                                                              refine fs_iaload_s (p := 1086) (by decide +kernel) rfl w58 ?_
                                                              refine fs_aload_n_a (k := 0) (p := 1087) (by decide +kernel) rfl rfl ?_
                                                              refine fs_iload_n (k := 3) (p := 1088) (by decide +kernel) rfl rfl ?_
                                                              refine fs_iconst (n := 2) (p := 1089) (by decide +kernel) rfl kc_2 ?_
                                                              refine fs_iadd (p := 1090) (by decide +kernel) rfl ?_
                                                              obtain ⟨v59, w60, h⟩ := fx_bd h
                                                              refine fs_iaload_s (p := 1091) (by decide +kernel) rfl w60 ?_
                                                              obtain ⟨q62, w61, h⟩ := fx_bd h
                                                              refine fs_callV (idx := 134) (mj := 227) (ci := 10) (na := 2) (mx := 3) (p := 1094) (args := [.ref 215, .int v57, .int v59]) (rest := []) (al2 := [some (.ref 215), some (.int v57), some (.int v59)]) (by decide +kernel) rfl (by decide +kernel) fo_215 rfl rfl rfl rfl rfl rfl rfl (by omega) (fun d' hd' => fe_227 (by omega) w61) rfl ?_
                                                              refine fs_pop (p := 1095) (by decide +kernel) rfl rfl ?_
                                                              refine fs_goto (off := 26) (p := 1121) (by decide +kernel) (by decide +kernel) ?_
                                                              exact fe_236_1121 hd ih _ _ _ h
                                                            · rw [if_neg c34] at h
                                                              by_cases c35 : (v4 &&& (31 : Int32)) = (28 : Int32)
                                                              · rw [if_pos c35] at h
                                                                refine fs_tsw_h (dflt := 1088) (lo := 0) (hi := 28) (offs := #[131, 194, 217, 240, 263, 306, 339, 372, 395, 408, 421, 464, 497, 530, 583, 626, 669, 712, 745, 778, 811, 834, 887, 920, 963, 986, 1009, 1032, 1065]) (x := (v4 &&& (31 : Int32))) (j := 28) (t := 1098) (by decide +kernel) (by decide +kernel) (by decide) (c35.trans (by decide)) ?_
                                                                refine fs_aload_n (k := 1) (p := 1099) (by decide +kernel) rfl rfl ?_
                                                                refine fs_aload_n_a (k := 0) (p := 1100) (by decide +kernel) rfl rfl ?_
                                                                refine fs_iload_n (k := 3) (p := 1101) (by decide +kernel) rfl rfl ?_
                                                                refine fs_iconst (n := 1) (p := 1102) (by decide +kernel) rfl kc_1 ?_
                                                                refine fs_iadd (p := 1103) (by decide +kernel) rfl ?_
                                                                obtain ⟨v37, w38, h⟩ := fx_bd h
                                                                refine fs_iaload_s (p := 1104) (by decide +kernel) rfl w38 ?_
                                                                obtain ⟨q41, w40, h⟩ := fx_bd h
                                                                refine fs_callV (idx := 135) (mj := 113) (ci := 9) (na := 1) (mx := 2) (p := 1107) (args := [.ref 0, .int v37]) (rest := []) (al2 := [some (.ref 0), some (.int v37)]) (by decide +kernel) rfl (by decide +kernel) fo_0 rfl rfl rfl rfl rfl rfl rfl (by omega) (fun d' hd' => fe_113 (by omega) w40) rfl ?_
                                                                refine fs_aload_n (k := 2) (p := 1108) (by decide +kernel) rfl rfl ?_
                                                                refine fs_aload_n_a (k := 0) (p := 1109) (by decide +kernel) rfl rfl ?_
                                                                refine fs_iload_n (k := 3) (p := 1110) (by decide +kernel) rfl rfl ?_
                                                                refine fs_iconst (n := 1) (p := 1111) (by decide +kernel) rfl kc_1 ?_
                                                                refine fs_iadd (p := 1112) (by decide +kernel) rfl ?_
                                                                obtain ⟨v42, w43, h⟩ := fx_bd h
                                                                refine fs_iaload_s (p := 1113) (by decide +kernel) rfl w43 ?_
                                                                obtain ⟨q45, w44, h⟩ := fx_bd h
                                                                refine fs_callV (idx := 138) (mj := 228) (ci := 10) (na := 1) (mx := 2) (p := 1116) (args := [.ref 215, .int v42]) (rest := [.int q41.1]) (al2 := [some (.ref 215), some (.int v42)]) (by decide +kernel) rfl (by decide +kernel) fo_215 rfl rfl rfl rfl rfl rfl rfl (by omega) (fun d' hd' => fe_228 (by omega) w44) rfl ?_
                                                                by_cases c48 : q41.1 = q45.1
                                                                · rw [if_pos c48] at h
                                                                  refine fs_icmp_eq_t (off := 5) (t := 1121) (by decide +kernel) (by decide +kernel) c48 ?_
                                                                  exact fe_236_1121 hd ih _ _ _ h
                                                                · rw [if_neg c48] at h
                                                                  refine fs_icmp_eq_f (off := 5) (t := 1121) (p := 1119) (by decide +kernel) (by decide +kernel) rfl c48 ?_
                                                                  refine fs_iconst (n := 0) (p := 1120) (by decide +kernel) rfl kc_0 ?_
                                                                  have h := Option.some.inj h
                                                                  subst h
                                                                  exact fs_zret (b := false) (by decide +kernel) rt_236
                                                              · rw [if_neg c35] at h
                                                                refine fs_tsw_d (dflt := 1088) (lo := 0) (hi := 28) (offs := #[131, 194, 217, 240, 263, 306, 339, 372, 395, 408, 421, 464, 497, 530, 583, 626, 669, 712, 745, 778, 811, 834, 887, 920, 963, 986, 1009, 1032, 1065]) (x := (v4 &&& (31 : Int32))) (t := 1121) (by decide +kernel) (by decide +kernel) (by decide) (by decide) (fun j hj => by match j, hj with | 0, _ => exact c7 | 1, _ => exact c8 | 2, _ => exact c9 | 3, _ => exact c10 | 4, _ => exact c11 | 5, _ => exact c12 | 6, _ => exact c13 | 7, _ => exact c14 | 8, _ => exact c15 | 9, _ => exact c16 | 10, _ => exact c17 | 11, _ => exact c18 | 12, _ => exact c19 | 13, _ => exact c20 | 14, _ => exact c21 | 15, _ => exact c22 | 16, _ => exact c23 | 17, _ => exact c24 | 18, _ => exact c25 | 19, _ => exact c26 | 20, _ => exact c27 | 21, _ => exact c28 | 22, _ => exact c29 | 23, _ => exact c30 | 24, _ => exact c31 | 25, _ => exact c32 | 26, _ => exact c33 | 27, _ => exact c34 | 28, _ => exact c35 | n + 29, hj => exact absurd hj (by show ¬ n + 29 < 29; omega)) ?_
                                                                exact fe_236_1121 hd ih _ _ _ h
