/-! the law -/
def gm_236_1121 (L : Nat) (xs : Nat → Int32) (k_18 : Int → gx_S → Option (Bool × gx_S)) (x3 : Int) (s : gx_S) : Option (Bool × gx_S) :=
  k_18 (x3 + 6) s
theorem gf_236_1121 {L : Nat} {xs : Nat → Int32} (hL : L ≤ 100000) {kf_18 : Int32 → fx_S → Option (Bool × fx_S)} {kg_18 : Int → gx_S → Option (Bool × gx_S)} (hk_18 : ∀ (x3 : Int) (yx3 : Int32) (e3 : yx3 = Int32.ofInt x3) (s : gx_S) (σ : fx_S) (es : σ = gx s) (q : Bool × gx_S), kg_18 x3 s = some q → kf_18 yx3 σ = some (q.1, gx q.2)) (x3 : Int) (yx3 : Int32) (e3 : yx3 = Int32.ofInt x3) (s : gx_S) (σ : fx_S) (es : σ = gx s) (q : Bool × gx_S) (h : gm_236_1121 L xs kg_18 x3 s = some q) : fm_236_1121 L xs kf_18 yx3 σ = some (q.1, gx q.2) := by
  unfold gm_236_1121 at h
  unfold fm_236_1121
  exact hk_18 _ _ (ga_add e3 kg_6) _ _ es _ h
def gm_236_18 (L : Nat) (xs : Nat → Int32) : Nat → Int → gx_S → Option (Bool × gx_S)
  | 0, _, _ => none
  | n + 1, x3, s =>
    if (-2147483648 ≤ x3 ∧ x3 ≤ 2147483647) then (
    if (-2147483648 ≤ ((L : Int) - 6) ∧ ((L : Int) - 6) ≤ 2147483647) then (
    if ((L : Int) - 6) < x3 then (
      some (true, s)) else (
      if 0 ≤ x3 ∧ x3 < (L : Int) then (
      if (-2147483648 ≤ ((Int32.ofInt ((xs (x3).toNat).toInt) &&& Int32.ofInt 31)).toInt ∧ ((Int32.ofInt ((xs (x3).toNat).toInt) &&& Int32.ofInt 31)).toInt ≤ 2147483647) then (
      if ((Int32.ofInt ((xs (x3).toNat).toInt) &&& Int32.ofInt 31)).toInt = 0 then (
        if 0 ≤ (x3 + 1) ∧ (x3 + 1) < (L : Int) then (
        if 0 ≤ (x3 + 2) ∧ (x3 + 2) < (L : Int) then (
        if 0 ≤ (x3 + 3) ∧ (x3 + 3) < (L : Int) then (
        if 0 ≤ (x3 + 4) ∧ (x3 + 4) < (L : Int) then (
        if 0 ≤ (x3 + 5) ∧ (x3 + 5) < (L : Int) then (
        (gm_85 ((xs ((x3 + 1)).toNat).toInt) ((xs ((x3 + 2)).toNat).toInt) ((xs ((x3 + 3)).toNat).toInt) ((xs ((x3 + 4)).toNat).toInt) ((xs ((x3 + 5)).toNat).toInt) s).bind fun q433 =>
        (gm_134 ((xs ((x3 + 1)).toNat).toInt) ((xs ((x3 + 2)).toNat).toInt) ((xs ((x3 + 3)).toNat).toInt) ((xs ((x3 + 4)).toNat).toInt) ((xs ((x3 + 5)).toNat).toInt) q433.2).bind fun q445 =>
        gm_236_1121 L xs (gm_236_18 L xs n) x3 q445.2) else none) else none) else none) else none) else none) else (
        if ((Int32.ofInt ((xs (x3).toNat).toInt) &&& Int32.ofInt 31)).toInt = 1 then (
          if 0 ≤ (x3 + 1) ∧ (x3 + 1) < (L : Int) then (
          (gm_86 ((xs ((x3 + 1)).toNat).toInt) s).bind fun q412 =>
          (gm_136 ((xs ((x3 + 1)).toNat).toInt) q412.2).bind fun q416 =>
          gm_236_1121 L xs (gm_236_18 L xs n) x3 q416.2) else none) else (
          if ((Int32.ofInt ((xs (x3).toNat).toInt) &&& Int32.ofInt 31)).toInt = 2 then (
            if 0 ≤ (x3 + 1) ∧ (x3 + 1) < (L : Int) then (
            (gm_87 ((xs ((x3 + 1)).toNat).toInt) s).bind fun q403 =>
            (gm_145 ((xs ((x3 + 1)).toNat).toInt) q403.2).bind fun q407 =>
            gm_236_1121 L xs (gm_236_18 L xs n) x3 q407.2) else none) else (
            if ((Int32.ofInt ((xs (x3).toNat).toInt) &&& Int32.ofInt 31)).toInt = 3 then (
              if 0 ≤ (x3 + 1) ∧ (x3 + 1) < (L : Int) then (
              (gm_88 ((xs ((x3 + 1)).toNat).toInt) s).bind fun q394 =>
              (gm_149 ((xs ((x3 + 1)).toNat).toInt) q394.2).bind fun q398 =>
              gm_236_1121 L xs (gm_236_18 L xs n) x3 q398.2) else none) else (
              if ((Int32.ofInt ((xs (x3).toNat).toInt) &&& Int32.ofInt 31)).toInt = 4 then (
                if 0 ≤ (x3 + 1) ∧ (x3 + 1) < (L : Int) then (
                if 0 ≤ (x3 + 2) ∧ (x3 + 2) < (L : Int) then (
                if 0 ≤ (x3 + 3) ∧ (x3 + 3) < (L : Int) then (
                (gm_89 ((xs ((x3 + 1)).toNat).toInt) ((xs ((x3 + 2)).toNat).toInt) ((xs ((x3 + 3)).toNat).toInt) s).bind fun q381 =>
                (gm_214 ((xs ((x3 + 1)).toNat).toInt) ((xs ((x3 + 2)).toNat).toInt) ((xs ((x3 + 3)).toNat).toInt) q381.2).bind fun q389 =>
                gm_236_1121 L xs (gm_236_18 L xs n) x3 q389.2) else none) else none) else none) else (
                if ((Int32.ofInt ((xs (x3).toNat).toInt) &&& Int32.ofInt 31)).toInt = 5 then (
                  if 0 ≤ (x3 + 1) ∧ (x3 + 1) < (L : Int) then (
                  if 0 ≤ (x3 + 2) ∧ (x3 + 2) < (L : Int) then (
                  (gm_90 ((xs ((x3 + 1)).toNat).toInt) ((xs ((x3 + 2)).toNat).toInt) s).bind fun q364 =>
                  (gm_215 ((xs ((x3 + 1)).toNat).toInt) ((xs ((x3 + 2)).toNat).toInt) q364.2).bind fun q370 =>
                  gm_236_1121 L xs (gm_236_18 L xs n) x3 q370.2) else none) else none) else (
                  if ((Int32.ofInt ((xs (x3).toNat).toInt) &&& Int32.ofInt 31)).toInt = 6 then (
                    if 0 ≤ (x3 + 1) ∧ (x3 + 1) < (L : Int) then (
                    if 0 ≤ (x3 + 2) ∧ (x3 + 2) < (L : Int) then (
                    (gm_91 ((xs ((x3 + 1)).toNat).toInt) ((xs ((x3 + 2)).toNat).toInt) s).bind fun q350 =>
                    (gm_216 ((xs ((x3 + 1)).toNat).toInt) ((xs ((x3 + 2)).toNat).toInt) q350.2).bind fun q356 =>
                    gm_236_1121 L xs (gm_236_18 L xs n) x3 q356.2) else none) else none) else (
                    if ((Int32.ofInt ((xs (x3).toNat).toInt) &&& Int32.ofInt 31)).toInt = 7 then (
                      if 0 ≤ (x3 + 1) ∧ (x3 + 1) < (L : Int) then (
                      (gm_92 ((xs ((x3 + 1)).toNat).toInt) s).bind fun q338 =>
                      (gm_212 ((xs ((x3 + 1)).toNat).toInt) q338.2).bind fun q342 =>
                      gm_236_1121 L xs (gm_236_18 L xs n) x3 q342.2) else none) else (
                      if ((Int32.ofInt ((xs (x3).toNat).toInt) &&& Int32.ofInt 31)).toInt = 8 then (
                        (gm_93 s).bind fun q331 =>
                        (gm_217 q331.2).bind fun q333 =>
                        gm_236_1121 L xs (gm_236_18 L xs n) x3 q333.2) else (
                        if ((Int32.ofInt ((xs (x3).toNat).toInt) &&& Int32.ofInt 31)).toInt = 9 then (
                          (gm_94 s).bind fun q327 =>
                          (gm_133 q327.2).bind fun q329 =>
                          gm_236_1121 L xs (gm_236_18 L xs n) x3 q329.2) else (
                          if ((Int32.ofInt ((xs (x3).toNat).toInt) &&& Int32.ofInt 31)).toInt = 10 then (
                            if 0 ≤ (x3 + 1) ∧ (x3 + 1) < (L : Int) then (
                            if 0 ≤ (x3 + 2) ∧ (x3 + 2) < (L : Int) then (
                            if 0 ≤ (x3 + 3) ∧ (x3 + 3) < (L : Int) then (
                            (gm_95 ((xs ((x3 + 1)).toNat).toInt) ((xs ((x3 + 2)).toNat).toInt) ((xs ((x3 + 3)).toNat).toInt) s).bind fun q317 =>
                            (gm_218 ((xs ((x3 + 1)).toNat).toInt) ((xs ((x3 + 2)).toNat).toInt) ((xs ((x3 + 3)).toNat).toInt) q317.2).bind fun q325 =>
                            gm_236_1121 L xs (gm_236_18 L xs n) x3 q325.2) else none) else none) else none) else (
                            if ((Int32.ofInt ((xs (x3).toNat).toInt) &&& Int32.ofInt 31)).toInt = 11 then (
                              if 0 ≤ (x3 + 1) ∧ (x3 + 1) < (L : Int) then (
                              if 0 ≤ (x3 + 2) ∧ (x3 + 2) < (L : Int) then (
                              (gm_96 ((xs ((x3 + 1)).toNat).toInt) ((xs ((x3 + 2)).toNat).toInt) s).bind fun q300 =>
                              (gm_220 ((xs ((x3 + 1)).toNat).toInt) ((xs ((x3 + 2)).toNat).toInt) q300.2).bind fun q306 =>
                              gm_236_1121 L xs (gm_236_18 L xs n) x3 q306.2) else none) else none) else (
                              if ((Int32.ofInt ((xs (x3).toNat).toInt) &&& Int32.ofInt 31)).toInt = 12 then (
                                if 0 ≤ (x3 + 1) ∧ (x3 + 1) < (L : Int) then (
                                if 0 ≤ (x3 + 2) ∧ (x3 + 2) < (L : Int) then (
                                (gm_97 ((xs ((x3 + 1)).toNat).toInt) ((xs ((x3 + 2)).toNat).toInt) s).bind fun q286 =>
                                (gm_179 ((xs ((x3 + 1)).toNat).toInt) ((xs ((x3 + 2)).toNat).toInt) q286.2).bind fun q292 =>
                                gm_236_1121 L xs (gm_236_18 L xs n) x3 q292.2) else none) else none) else (
                                if ((Int32.ofInt ((xs (x3).toNat).toInt) &&& Int32.ofInt 31)).toInt = 13 then (
                                  if 0 ≤ (x3 + 1) ∧ (x3 + 1) < (L : Int) then (
                                  if 0 ≤ (x3 + 2) ∧ (x3 + 2) < (L : Int) then (
                                  if 0 ≤ (x3 + 3) ∧ (x3 + 3) < (L : Int) then (
                                  if 0 ≤ (x3 + 4) ∧ (x3 + 4) < (L : Int) then (
                                  (gm_98 ((xs ((x3 + 1)).toNat).toInt) ((xs ((x3 + 2)).toNat).toInt) ((xs ((x3 + 3)).toNat).toInt) ((xs ((x3 + 4)).toNat).toInt) s).bind fun q268 =>
                                  (gm_195 ((xs ((x3 + 1)).toNat).toInt) ((xs ((x3 + 2)).toNat).toInt) ((xs ((x3 + 3)).toNat).toInt) ((xs ((x3 + 4)).toNat).toInt) q268.2).bind fun q278 =>
                                  gm_236_1121 L xs (gm_236_18 L xs n) x3 q278.2) else none) else none) else none) else none) else (
                                  if ((Int32.ofInt ((xs (x3).toNat).toInt) &&& Int32.ofInt 31)).toInt = 14 then (
                                    if 0 ≤ (x3 + 1) ∧ (x3 + 1) < (L : Int) then (
                                    if 0 ≤ (x3 + 2) ∧ (x3 + 2) < (L : Int) then (
                                    if 0 ≤ (x3 + 3) ∧ (x3 + 3) < (L : Int) then (
                                    (gm_99 ((xs ((x3 + 1)).toNat).toInt) ((xs ((x3 + 2)).toNat).toInt) ((xs ((x3 + 3)).toNat).toInt) s).bind fun q246 =>
                                    (gm_185 ((xs ((x3 + 1)).toNat).toInt) ((xs ((x3 + 2)).toNat).toInt) ((xs ((x3 + 3)).toNat).toInt) q246.2).bind fun q254 =>
                                    gm_236_1121 L xs (gm_236_18 L xs n) x3 q254.2) else none) else none) else none) else (
                                    if ((Int32.ofInt ((xs (x3).toNat).toInt) &&& Int32.ofInt 31)).toInt = 15 then (
                                      if 0 ≤ (x3 + 1) ∧ (x3 + 1) < (L : Int) then (
                                      if 0 ≤ (x3 + 2) ∧ (x3 + 2) < (L : Int) then (
                                      if 0 ≤ (x3 + 3) ∧ (x3 + 3) < (L : Int) then (
                                      (gm_100 ((xs ((x3 + 1)).toNat).toInt) ((xs ((x3 + 2)).toNat).toInt) ((xs ((x3 + 3)).toNat).toInt) s).bind fun q227 =>
                                      (gm_196 ((xs ((x3 + 1)).toNat).toInt) ((xs ((x3 + 2)).toNat).toInt) ((xs ((x3 + 3)).toNat).toInt) q227.2).bind fun q235 =>
                                      gm_236_1121 L xs (gm_236_18 L xs n) x3 q235.2) else none) else none) else none) else (
                                      if ((Int32.ofInt ((xs (x3).toNat).toInt) &&& Int32.ofInt 31)).toInt = 16 then (
                                        if 0 ≤ (x3 + 1) ∧ (x3 + 1) < (L : Int) then (
                                        if 0 ≤ (x3 + 2) ∧ (x3 + 2) < (L : Int) then (
                                        if 0 ≤ (x3 + 3) ∧ (x3 + 3) < (L : Int) then (
                                        (gm_101 ((xs ((x3 + 1)).toNat).toInt) ((xs ((x3 + 2)).toNat).toInt) ((xs ((x3 + 3)).toNat).toInt) s).bind fun q208 =>
                                        (gm_188 ((xs ((x3 + 1)).toNat).toInt) ((xs ((x3 + 2)).toNat).toInt) ((xs ((x3 + 3)).toNat).toInt) q208.2).bind fun q216 =>
                                        gm_236_1121 L xs (gm_236_18 L xs n) x3 q216.2) else none) else none) else none) else (
                                        if ((Int32.ofInt ((xs (x3).toNat).toInt) &&& Int32.ofInt 31)).toInt = 17 then (
                                          if 0 ≤ (x3 + 1) ∧ (x3 + 1) < (L : Int) then (
                                          if 0 ≤ (x3 + 2) ∧ (x3 + 2) < (L : Int) then (
                                          (gm_102 ((xs ((x3 + 1)).toNat).toInt) ((xs ((x3 + 2)).toNat).toInt) s).bind fun q191 =>
                                          (gm_210 ((xs ((x3 + 1)).toNat).toInt) ((xs ((x3 + 2)).toNat).toInt) q191.2).bind fun q197 =>
                                          gm_236_1121 L xs (gm_236_18 L xs n) x3 q197.2) else none) else none) else (
                                          if ((Int32.ofInt ((xs (x3).toNat).toInt) &&& Int32.ofInt 31)).toInt = 18 then (
                                            if 0 ≤ (x3 + 1) ∧ (x3 + 1) < (L : Int) then (
                                            if 0 ≤ (x3 + 2) ∧ (x3 + 2) < (L : Int) then (
                                            (gm_103 ((xs ((x3 + 1)).toNat).toInt) ((xs ((x3 + 2)).toNat).toInt) s).bind fun q177 =>
                                            (gm_189 ((xs ((x3 + 1)).toNat).toInt) ((xs ((x3 + 2)).toNat).toInt) q177.2).bind fun q183 =>
                                            gm_236_1121 L xs (gm_236_18 L xs n) x3 q183.2) else none) else none) else (
                                            if ((Int32.ofInt ((xs (x3).toNat).toInt) &&& Int32.ofInt 31)).toInt = 19 then (
                                              if 0 ≤ (x3 + 1) ∧ (x3 + 1) < (L : Int) then (
                                              if 0 ≤ (x3 + 2) ∧ (x3 + 2) < (L : Int) then (
                                              (gm_104 ((xs ((x3 + 1)).toNat).toInt) ((xs ((x3 + 2)).toNat).toInt) s).bind fun q163 =>
                                              (gm_192 ((xs ((x3 + 1)).toNat).toInt) ((xs ((x3 + 2)).toNat).toInt) q163.2).bind fun q169 =>
                                              gm_236_1121 L xs (gm_236_18 L xs n) x3 q169.2) else none) else none) else (
                                              if ((Int32.ofInt ((xs (x3).toNat).toInt) &&& Int32.ofInt 31)).toInt = 20 then (
                                                if 0 ≤ (x3 + 1) ∧ (x3 + 1) < (L : Int) then (
                                                (gm_105 ((xs ((x3 + 1)).toNat).toInt) s).bind fun q151 =>
                                                (gm_193 ((xs ((x3 + 1)).toNat).toInt) q151.2).bind fun q155 =>
                                                gm_236_1121 L xs (gm_236_18 L xs n) x3 q155.2) else none) else (
                                                if ((Int32.ofInt ((xs (x3).toNat).toInt) &&& Int32.ofInt 31)).toInt = 21 then (
                                                  if 0 ≤ (x3 + 1) ∧ (x3 + 1) < (L : Int) then (
                                                  if 0 ≤ (x3 + 2) ∧ (x3 + 2) < (L : Int) then (
                                                  if 0 ≤ (x3 + 3) ∧ (x3 + 3) < (L : Int) then (
                                                  if 0 ≤ (x3 + 4) ∧ (x3 + 4) < (L : Int) then (
                                                  (gm_106 ((xs ((x3 + 1)).toNat).toInt) ((xs ((x3 + 2)).toNat).toInt) ((xs ((x3 + 3)).toNat).toInt) ((xs ((x3 + 4)).toNat).toInt) s).bind fun q136 =>
                                                  (gm_199 ((xs ((x3 + 1)).toNat).toInt) ((xs ((x3 + 2)).toNat).toInt) ((xs ((x3 + 3)).toNat).toInt) ((xs ((x3 + 4)).toNat).toInt) q136.2).bind fun q146 =>
                                                  gm_236_1121 L xs (gm_236_18 L xs n) x3 q146.2) else none) else none) else none) else none) else (
                                                  if ((Int32.ofInt ((xs (x3).toNat).toInt) &&& Int32.ofInt 31)).toInt = 22 then (
                                                    if 0 ≤ (x3 + 1) ∧ (x3 + 1) < (L : Int) then (
                                                    if 0 ≤ (x3 + 2) ∧ (x3 + 2) < (L : Int) then (
                                                    (gm_107 ((xs ((x3 + 1)).toNat).toInt) ((xs ((x3 + 2)).toNat).toInt) s).bind fun q116 =>
                                                    (gm_201 ((xs ((x3 + 1)).toNat).toInt) ((xs ((x3 + 2)).toNat).toInt) q116.2).bind fun q122 =>
                                                    gm_236_1121 L xs (gm_236_18 L xs n) x3 q122.2) else none) else none) else (
                                                    if ((Int32.ofInt ((xs (x3).toNat).toInt) &&& Int32.ofInt 31)).toInt = 23 then (
                                                      if 0 ≤ (x3 + 1) ∧ (x3 + 1) < (L : Int) then (
                                                      if 0 ≤ (x3 + 2) ∧ (x3 + 2) < (L : Int) then (
                                                      if 0 ≤ (x3 + 3) ∧ (x3 + 3) < (L : Int) then (
                                                      (gm_108 ((xs ((x3 + 1)).toNat).toInt) ((xs ((x3 + 2)).toNat).toInt) ((xs ((x3 + 3)).toNat).toInt) s).bind fun q100 =>
                                                      (gm_203 ((xs ((x3 + 1)).toNat).toInt) ((xs ((x3 + 2)).toNat).toInt) ((xs ((x3 + 3)).toNat).toInt) q100.2).bind fun q108 =>
                                                      gm_236_1121 L xs (gm_236_18 L xs n) x3 q108.2) else none) else none) else none) else (
                                                      if ((Int32.ofInt ((xs (x3).toNat).toInt) &&& Int32.ofInt 31)).toInt = 24 then (
                                                        if 0 ≤ (x3 + 1) ∧ (x3 + 1) < (L : Int) then (
                                                        (gm_109 ((xs ((x3 + 1)).toNat).toInt) s).bind fun q85 =>
                                                        (gm_204 ((xs ((x3 + 1)).toNat).toInt) q85.2).bind fun q89 =>
                                                        gm_236_1121 L xs (gm_236_18 L xs n) x3 q89.2) else none) else (
                                                        if ((Int32.ofInt ((xs (x3).toNat).toInt) &&& Int32.ofInt 31)).toInt = 25 then (
                                                          if 0 ≤ (x3 + 1) ∧ (x3 + 1) < (L : Int) then (
                                                          (gm_110 ((xs ((x3 + 1)).toNat).toInt) s).bind fun q76 =>
                                                          (gm_223 ((xs ((x3 + 1)).toNat).toInt) q76.2).bind fun q80 =>
                                                          gm_236_1121 L xs (gm_236_18 L xs n) x3 q80.2) else none) else (
                                                          if ((Int32.ofInt ((xs (x3).toNat).toInt) &&& Int32.ofInt 31)).toInt = 26 then (
                                                            if 0 ≤ (x3 + 1) ∧ (x3 + 1) < (L : Int) then (
                                                            (gm_111 ((xs ((x3 + 1)).toNat).toInt) s).bind fun q67 =>
                                                            (gm_226 ((xs ((x3 + 1)).toNat).toInt) q67.2).bind fun q71 =>
                                                            gm_236_1121 L xs (gm_236_18 L xs n) x3 q71.2) else none) else (
                                                            if ((Int32.ofInt ((xs (x3).toNat).toInt) &&& Int32.ofInt 31)).toInt = 27 then (
                                                              if 0 ≤ (x3 + 1) ∧ (x3 + 1) < (L : Int) then (
                                                              if 0 ≤ (x3 + 2) ∧ (x3 + 2) < (L : Int) then (
                                                              (gm_112 ((xs ((x3 + 1)).toNat).toInt) ((xs ((x3 + 2)).toNat).toInt) s).bind fun q56 =>
                                                              (gm_227 ((xs ((x3 + 1)).toNat).toInt) ((xs ((x3 + 2)).toNat).toInt) q56.2).bind fun q62 =>
                                                              gm_236_1121 L xs (gm_236_18 L xs n) x3 q62.2) else none) else none) else (
                                                              if ((Int32.ofInt ((xs (x3).toNat).toInt) &&& Int32.ofInt 31)).toInt = 28 then (
                                                                if 0 ≤ (x3 + 1) ∧ (x3 + 1) < (L : Int) then (
                                                                (gm_113 ((xs ((x3 + 1)).toNat).toInt) s).bind fun q41 =>
                                                                (gm_228 ((xs ((x3 + 1)).toNat).toInt) q41.2).bind fun q45 =>
                                                                if (-2147483648 ≤ q41.1 ∧ q41.1 ≤ 2147483647) then (
                                                                if (-2147483648 ≤ q45.1 ∧ q45.1 ≤ 2147483647) then (
                                                                if q41.1 = q45.1 then (
                                                                  gm_236_1121 L xs (gm_236_18 L xs n) x3 q45.2) else (
                                                                  some (false, q45.2))) else none) else none) else none) else (
                                                                gm_236_1121 L xs (gm_236_18 L xs n) x3 s)))))))))))))))))))))))))))))) else none) else none)) else none) else none
theorem gf_236_18 {L : Nat} {xs : Nat → Int32} (hL : L ≤ 100000) : ∀ (n : Nat) (x3 : Int) (yx3 : Int32) (e3 : yx3 = Int32.ofInt x3) (s : gx_S) (σ : fx_S) (es : σ = gx s) (q : Bool × gx_S), gm_236_18 L xs n x3 s = some q → fm_236_18 L xs n yx3 σ = some (q.1, gx q.2) := by
  intro n
  induction n with
  | zero =>
    intro x3 yx3 e3 s σ es q  h
    rw [gm_236_18] at h
    exact fx_no h
  | succ n ih =>
    intro x3 yx3 e3 s σ es q  h
    rw [gm_236_18] at h
    rw [fm_236_18]
    obtain ⟨z1, h⟩ := fx_gd h
    obtain ⟨z2, h⟩ := fx_gd h
    by_cases c3 : ((L : Int) - 6) < x3
    · rw [if_pos c3] at h
      refine gb_t ((gc_lt (ga_sub (gc_L L) kg_6) e3 z2 z1).mpr c3) ?_
      have h := Option.some.inj h
      subst h
      exact gretb es
    · rw [if_neg c3] at h
      refine gb_f (fun q => c3 ((gc_lt (ga_sub (gc_L L) kg_6) e3 z2 z1).mp q)) ?_
      obtain ⟨z6, h⟩ := fx_gd h
      refine gb_bind (gl_lds hL e3 z6) ?_
      obtain ⟨z36, h⟩ := fx_gd h
      by_cases c7 : ((Int32.ofInt ((xs (x3).toNat).toInt) &&& Int32.ofInt 31)).toInt = 0
      · rw [if_pos c7] at h
        refine gb_t ((gc_eq (ga_o2 (f := (fun a b => (a &&& b))) (gr ((xs (x3).toNat).toInt)) kg_31) kg_0 z36 (by decide)).mpr c7) ?_
        obtain ⟨z419, h⟩ := fx_gd h
        refine gb_bind (gl_lds hL (ga_add e3 kg_1) z419) ?_
        obtain ⟨z422, h⟩ := fx_gd h
        refine gb_bind (gl_lds hL (ga_add e3 kg_2) z422) ?_
        obtain ⟨z425, h⟩ := fx_gd h
        refine gb_bind (gl_lds hL (ga_add e3 kg_3) z425) ?_
        obtain ⟨z428, h⟩ := fx_gd h
        refine gb_bind (gl_lds hL (ga_add e3 kg_4) z428) ?_
        obtain ⟨z431, h⟩ := fx_gd h
        refine gb_bind (gl_lds hL (ga_add e3 kg_5) z431) ?_
        obtain ⟨q433, w432, h⟩ := fx_bd h
        refine gb_bind (gf_85 (gr ((xs ((x3 + 1)).toNat).toInt)) (gr ((xs ((x3 + 2)).toNat).toInt)) (gr ((xs ((x3 + 3)).toNat).toInt)) (gr ((xs ((x3 + 4)).toNat).toInt)) (gr ((xs ((x3 + 5)).toNat).toInt)) es w432) ?_
        refine gb_bind (gl_lds hL (ga_add e3 kg_1) z419) ?_
        refine gb_bind (gl_lds hL (ga_add e3 kg_2) z422) ?_
        refine gb_bind (gl_lds hL (ga_add e3 kg_3) z425) ?_
        refine gb_bind (gl_lds hL (ga_add e3 kg_4) z428) ?_
        refine gb_bind (gl_lds hL (ga_add e3 kg_5) z431) ?_
        obtain ⟨q445, w444, h⟩ := fx_bd h
        refine gb_bind (gf_134 (gr ((xs ((x3 + 1)).toNat).toInt)) (gr ((xs ((x3 + 2)).toNat).toInt)) (gr ((xs ((x3 + 3)).toNat).toInt)) (gr ((xs ((x3 + 4)).toNat).toInt)) (gr ((xs ((x3 + 5)).toNat).toInt)) (rfl : _ = gx q433.2) w444) ?_
        exact gf_236_1121 hL ih _ _ e3 _ _ (rfl : _ = gx q445.2) _ h
      · rw [if_neg c7] at h
        refine gb_f (fun q => c7 ((gc_eq (ga_o2 (f := (fun a b => (a &&& b))) (gr ((xs (x3).toNat).toInt)) kg_31) kg_0 z36 (by decide)).mp q)) ?_
        by_cases c8 : ((Int32.ofInt ((xs (x3).toNat).toInt) &&& Int32.ofInt 31)).toInt = 1
        · rw [if_pos c8] at h
          refine gb_t ((gc_eq (ga_o2 (f := (fun a b => (a &&& b))) (gr ((xs (x3).toNat).toInt)) kg_31) kg_1 z36 (by decide)).mpr c8) ?_
          obtain ⟨z410, h⟩ := fx_gd h
          refine gb_bind (gl_lds hL (ga_add e3 kg_1) z410) ?_
          obtain ⟨q412, w411, h⟩ := fx_bd h
          refine gb_bind (gf_86 (gr ((xs ((x3 + 1)).toNat).toInt)) es w411) ?_
          refine gb_bind (gl_lds hL (ga_add e3 kg_1) z410) ?_
          obtain ⟨q416, w415, h⟩ := fx_bd h
          refine gb_bind (gf_136 (gr ((xs ((x3 + 1)).toNat).toInt)) (rfl : _ = gx q412.2) w415) ?_
          exact gf_236_1121 hL ih _ _ e3 _ _ (rfl : _ = gx q416.2) _ h
        · rw [if_neg c8] at h
          refine gb_f (fun q => c8 ((gc_eq (ga_o2 (f := (fun a b => (a &&& b))) (gr ((xs (x3).toNat).toInt)) kg_31) kg_1 z36 (by decide)).mp q)) ?_
          by_cases c9 : ((Int32.ofInt ((xs (x3).toNat).toInt) &&& Int32.ofInt 31)).toInt = 2
          · rw [if_pos c9] at h
            refine gb_t ((gc_eq (ga_o2 (f := (fun a b => (a &&& b))) (gr ((xs (x3).toNat).toInt)) kg_31) kg_2 z36 (by decide)).mpr c9) ?_
            obtain ⟨z401, h⟩ := fx_gd h
            refine gb_bind (gl_lds hL (ga_add e3 kg_1) z401) ?_
            obtain ⟨q403, w402, h⟩ := fx_bd h
            refine gb_bind (gf_87 (gr ((xs ((x3 + 1)).toNat).toInt)) es w402) ?_
            refine gb_bind (gl_lds hL (ga_add e3 kg_1) z401) ?_
            obtain ⟨q407, w406, h⟩ := fx_bd h
            refine gb_bind (gf_145 (gr ((xs ((x3 + 1)).toNat).toInt)) (rfl : _ = gx q403.2) w406) ?_
            exact gf_236_1121 hL ih _ _ e3 _ _ (rfl : _ = gx q407.2) _ h
          · rw [if_neg c9] at h
            refine gb_f (fun q => c9 ((gc_eq (ga_o2 (f := (fun a b => (a &&& b))) (gr ((xs (x3).toNat).toInt)) kg_31) kg_2 z36 (by decide)).mp q)) ?_
            by_cases c10 : ((Int32.ofInt ((xs (x3).toNat).toInt) &&& Int32.ofInt 31)).toInt = 3
            · rw [if_pos c10] at h
              refine gb_t ((gc_eq (ga_o2 (f := (fun a b => (a &&& b))) (gr ((xs (x3).toNat).toInt)) kg_31) kg_3 z36 (by decide)).mpr c10) ?_
              obtain ⟨z392, h⟩ := fx_gd h
              refine gb_bind (gl_lds hL (ga_add e3 kg_1) z392) ?_
              obtain ⟨q394, w393, h⟩ := fx_bd h
              refine gb_bind (gf_88 (gr ((xs ((x3 + 1)).toNat).toInt)) es w393) ?_
              refine gb_bind (gl_lds hL (ga_add e3 kg_1) z392) ?_
              obtain ⟨q398, w397, h⟩ := fx_bd h
              refine gb_bind (gf_149 (gr ((xs ((x3 + 1)).toNat).toInt)) (rfl : _ = gx q394.2) w397) ?_
              exact gf_236_1121 hL ih _ _ e3 _ _ (rfl : _ = gx q398.2) _ h
            · rw [if_neg c10] at h
              refine gb_f (fun q => c10 ((gc_eq (ga_o2 (f := (fun a b => (a &&& b))) (gr ((xs (x3).toNat).toInt)) kg_31) kg_3 z36 (by decide)).mp q)) ?_
              by_cases c11 : ((Int32.ofInt ((xs (x3).toNat).toInt) &&& Int32.ofInt 31)).toInt = 4
              · rw [if_pos c11] at h
                refine gb_t ((gc_eq (ga_o2 (f := (fun a b => (a &&& b))) (gr ((xs (x3).toNat).toInt)) kg_31) kg_4 z36 (by decide)).mpr c11) ?_
                obtain ⟨z373, h⟩ := fx_gd h
                refine gb_bind (gl_lds hL (ga_add e3 kg_1) z373) ?_
                obtain ⟨z376, h⟩ := fx_gd h
                refine gb_bind (gl_lds hL (ga_add e3 kg_2) z376) ?_
                obtain ⟨z379, h⟩ := fx_gd h
                refine gb_bind (gl_lds hL (ga_add e3 kg_3) z379) ?_
                obtain ⟨q381, w380, h⟩ := fx_bd h
                refine gb_bind (gf_89 (gr ((xs ((x3 + 1)).toNat).toInt)) (gr ((xs ((x3 + 2)).toNat).toInt)) (gr ((xs ((x3 + 3)).toNat).toInt)) es w380) ?_
                refine gb_bind (gl_lds hL (ga_add e3 kg_1) z373) ?_
                refine gb_bind (gl_lds hL (ga_add e3 kg_2) z376) ?_
                refine gb_bind (gl_lds hL (ga_add e3 kg_3) z379) ?_
                obtain ⟨q389, w388, h⟩ := fx_bd h
                refine gb_bind (gf_214 (gr ((xs ((x3 + 1)).toNat).toInt)) (gr ((xs ((x3 + 2)).toNat).toInt)) (gr ((xs ((x3 + 3)).toNat).toInt)) (rfl : _ = gx q381.2) w388) ?_
                exact gf_236_1121 hL ih _ _ e3 _ _ (rfl : _ = gx q389.2) _ h
              · rw [if_neg c11] at h
                refine gb_f (fun q => c11 ((gc_eq (ga_o2 (f := (fun a b => (a &&& b))) (gr ((xs (x3).toNat).toInt)) kg_31) kg_4 z36 (by decide)).mp q)) ?_
                by_cases c12 : ((Int32.ofInt ((xs (x3).toNat).toInt) &&& Int32.ofInt 31)).toInt = 5
                · rw [if_pos c12] at h
                  refine gb_t ((gc_eq (ga_o2 (f := (fun a b => (a &&& b))) (gr ((xs (x3).toNat).toInt)) kg_31) kg_5 z36 (by decide)).mpr c12) ?_
                  obtain ⟨z359, h⟩ := fx_gd h
                  refine gb_bind (gl_lds hL (ga_add e3 kg_1) z359) ?_
                  obtain ⟨z362, h⟩ := fx_gd h
                  refine gb_bind (gl_lds hL (ga_add e3 kg_2) z362) ?_
                  obtain ⟨q364, w363, h⟩ := fx_bd h
                  refine gb_bind (gf_90 (gr ((xs ((x3 + 1)).toNat).toInt)) (gr ((xs ((x3 + 2)).toNat).toInt)) es w363) ?_
                  refine gb_bind (gl_lds hL (ga_add e3 kg_1) z359) ?_
                  refine gb_bind (gl_lds hL (ga_add e3 kg_2) z362) ?_
                  obtain ⟨q370, w369, h⟩ := fx_bd h
                  refine gb_bind (gf_215 (gr ((xs ((x3 + 1)).toNat).toInt)) (gr ((xs ((x3 + 2)).toNat).toInt)) (rfl : _ = gx q364.2) w369) ?_
                  exact gf_236_1121 hL ih _ _ e3 _ _ (rfl : _ = gx q370.2) _ h
                · rw [if_neg c12] at h
                  refine gb_f (fun q => c12 ((gc_eq (ga_o2 (f := (fun a b => (a &&& b))) (gr ((xs (x3).toNat).toInt)) kg_31) kg_5 z36 (by decide)).mp q)) ?_
                  by_cases c13 : ((Int32.ofInt ((xs (x3).toNat).toInt) &&& Int32.ofInt 31)).toInt = 6
                  · rw [if_pos c13] at h
                    refine gb_t ((gc_eq (ga_o2 (f := (fun a b => (a &&& b))) (gr ((xs (x3).toNat).toInt)) kg_31) kg_6 z36 (by decide)).mpr c13) ?_
                    obtain ⟨z345, h⟩ := fx_gd h
                    refine gb_bind (gl_lds hL (ga_add e3 kg_1) z345) ?_
                    obtain ⟨z348, h⟩ := fx_gd h
                    refine gb_bind (gl_lds hL (ga_add e3 kg_2) z348) ?_
                    obtain ⟨q350, w349, h⟩ := fx_bd h
                    refine gb_bind (gf_91 (gr ((xs ((x3 + 1)).toNat).toInt)) (gr ((xs ((x3 + 2)).toNat).toInt)) es w349) ?_
                    refine gb_bind (gl_lds hL (ga_add e3 kg_1) z345) ?_
                    refine gb_bind (gl_lds hL (ga_add e3 kg_2) z348) ?_
                    obtain ⟨q356, w355, h⟩ := fx_bd h
                    refine gb_bind (gf_216 (gr ((xs ((x3 + 1)).toNat).toInt)) (gr ((xs ((x3 + 2)).toNat).toInt)) (rfl : _ = gx q350.2) w355) ?_
                    exact gf_236_1121 hL ih _ _ e3 _ _ (rfl : _ = gx q356.2) _ h
                  · rw [if_neg c13] at h
                    refine gb_f (fun q => c13 ((gc_eq (ga_o2 (f := (fun a b => (a &&& b))) (gr ((xs (x3).toNat).toInt)) kg_31) kg_6 z36 (by decide)).mp q)) ?_
                    by_cases c14 : ((Int32.ofInt ((xs (x3).toNat).toInt) &&& Int32.ofInt 31)).toInt = 7
                    · rw [if_pos c14] at h
                      refine gb_t ((gc_eq (ga_o2 (f := (fun a b => (a &&& b))) (gr ((xs (x3).toNat).toInt)) kg_31) kg_7 z36 (by decide)).mpr c14) ?_
                      obtain ⟨z336, h⟩ := fx_gd h
                      refine gb_bind (gl_lds hL (ga_add e3 kg_1) z336) ?_
                      obtain ⟨q338, w337, h⟩ := fx_bd h
                      refine gb_bind (gf_92 (gr ((xs ((x3 + 1)).toNat).toInt)) es w337) ?_
                      refine gb_bind (gl_lds hL (ga_add e3 kg_1) z336) ?_
                      obtain ⟨q342, w341, h⟩ := fx_bd h
                      refine gb_bind (gf_212 (gr ((xs ((x3 + 1)).toNat).toInt)) (rfl : _ = gx q338.2) w341) ?_
                      exact gf_236_1121 hL ih _ _ e3 _ _ (rfl : _ = gx q342.2) _ h
                    · rw [if_neg c14] at h
                      refine gb_f (fun q => c14 ((gc_eq (ga_o2 (f := (fun a b => (a &&& b))) (gr ((xs (x3).toNat).toInt)) kg_31) kg_7 z36 (by decide)).mp q)) ?_
                      by_cases c15 : ((Int32.ofInt ((xs (x3).toNat).toInt) &&& Int32.ofInt 31)).toInt = 8
                      · rw [if_pos c15] at h
                        refine gb_t ((gc_eq (ga_o2 (f := (fun a b => (a &&& b))) (gr ((xs (x3).toNat).toInt)) kg_31) kg_8 z36 (by decide)).mpr c15) ?_
                        obtain ⟨q331, w330, h⟩ := fx_bd h
                        refine gb_bind (gf_93 es w330) ?_
                        obtain ⟨q333, w332, h⟩ := fx_bd h
                        refine gb_bind (gf_217 (rfl : _ = gx q331.2) w332) ?_
                        exact gf_236_1121 hL ih _ _ e3 _ _ (rfl : _ = gx q333.2) _ h
                      · rw [if_neg c15] at h
                        refine gb_f (fun q => c15 ((gc_eq (ga_o2 (f := (fun a b => (a &&& b))) (gr ((xs (x3).toNat).toInt)) kg_31) kg_8 z36 (by decide)).mp q)) ?_
                        by_cases c16 : ((Int32.ofInt ((xs (x3).toNat).toInt) &&& Int32.ofInt 31)).toInt = 9
                        · rw [if_pos c16] at h
                          refine gb_t ((gc_eq (ga_o2 (f := (fun a b => (a &&& b))) (gr ((xs (x3).toNat).toInt)) kg_31) kg_9 z36 (by decide)).mpr c16) ?_
                          obtain ⟨q327, w326, h⟩ := fx_bd h
                          refine gb_bind (gf_94 es w326) ?_
                          obtain ⟨q329, w328, h⟩ := fx_bd h
                          refine gb_bind (gf_133 (rfl : _ = gx q327.2) w328) ?_
                          exact gf_236_1121 hL ih _ _ e3 _ _ (rfl : _ = gx q329.2) _ h
                        · rw [if_neg c16] at h
                          refine gb_f (fun q => c16 ((gc_eq (ga_o2 (f := (fun a b => (a &&& b))) (gr ((xs (x3).toNat).toInt)) kg_31) kg_9 z36 (by decide)).mp q)) ?_
                          by_cases c17 : ((Int32.ofInt ((xs (x3).toNat).toInt) &&& Int32.ofInt 31)).toInt = 10
                          · rw [if_pos c17] at h
                            refine gb_t ((gc_eq (ga_o2 (f := (fun a b => (a &&& b))) (gr ((xs (x3).toNat).toInt)) kg_31) kg_10 z36 (by decide)).mpr c17) ?_
                            obtain ⟨z309, h⟩ := fx_gd h
                            refine gb_bind (gl_lds hL (ga_add e3 kg_1) z309) ?_
                            obtain ⟨z312, h⟩ := fx_gd h
                            refine gb_bind (gl_lds hL (ga_add e3 kg_2) z312) ?_
                            obtain ⟨z315, h⟩ := fx_gd h
                            refine gb_bind (gl_lds hL (ga_add e3 kg_3) z315) ?_
                            obtain ⟨q317, w316, h⟩ := fx_bd h
                            refine gb_bind (gf_95 (gr ((xs ((x3 + 1)).toNat).toInt)) (gr ((xs ((x3 + 2)).toNat).toInt)) (gr ((xs ((x3 + 3)).toNat).toInt)) es w316) ?_
                            refine gb_bind (gl_lds hL (ga_add e3 kg_1) z309) ?_
                            refine gb_bind (gl_lds hL (ga_add e3 kg_2) z312) ?_
                            refine gb_bind (gl_lds hL (ga_add e3 kg_3) z315) ?_
                            obtain ⟨q325, w324, h⟩ := fx_bd h
                            refine gb_bind (gf_218 (gr ((xs ((x3 + 1)).toNat).toInt)) (gr ((xs ((x3 + 2)).toNat).toInt)) (gr ((xs ((x3 + 3)).toNat).toInt)) (rfl : _ = gx q317.2) w324) ?_
                            exact gf_236_1121 hL ih _ _ e3 _ _ (rfl : _ = gx q325.2) _ h
                          · rw [if_neg c17] at h
                            refine gb_f (fun q => c17 ((gc_eq (ga_o2 (f := (fun a b => (a &&& b))) (gr ((xs (x3).toNat).toInt)) kg_31) kg_10 z36 (by decide)).mp q)) ?_
                            by_cases c18 : ((Int32.ofInt ((xs (x3).toNat).toInt) &&& Int32.ofInt 31)).toInt = 11
                            · rw [if_pos c18] at h
                              refine gb_t ((gc_eq (ga_o2 (f := (fun a b => (a &&& b))) (gr ((xs (x3).toNat).toInt)) kg_31) kg_11 z36 (by decide)).mpr c18) ?_
                              obtain ⟨z295, h⟩ := fx_gd h
                              refine gb_bind (gl_lds hL (ga_add e3 kg_1) z295) ?_
                              obtain ⟨z298, h⟩ := fx_gd h
                              refine gb_bind (gl_lds hL (ga_add e3 kg_2) z298) ?_
                              obtain ⟨q300, w299, h⟩ := fx_bd h
                              refine gb_bind (gf_96 (gr ((xs ((x3 + 1)).toNat).toInt)) (gr ((xs ((x3 + 2)).toNat).toInt)) es w299) ?_
                              refine gb_bind (gl_lds hL (ga_add e3 kg_1) z295) ?_
                              refine gb_bind (gl_lds hL (ga_add e3 kg_2) z298) ?_
                              obtain ⟨q306, w305, h⟩ := fx_bd h
                              refine gb_bind (gf_220 (gr ((xs ((x3 + 1)).toNat).toInt)) (gr ((xs ((x3 + 2)).toNat).toInt)) (rfl : _ = gx q300.2) w305) ?_
                              exact gf_236_1121 hL ih _ _ e3 _ _ (rfl : _ = gx q306.2) _ h
                            · rw [if_neg c18] at h
                              refine gb_f (fun q => c18 ((gc_eq (ga_o2 (f := (fun a b => (a &&& b))) (gr ((xs (x3).toNat).toInt)) kg_31) kg_11 z36 (by decide)).mp q)) ?_
                              by_cases c19 : ((Int32.ofInt ((xs (x3).toNat).toInt) &&& Int32.ofInt 31)).toInt = 12
                              · rw [if_pos c19] at h
                                refine gb_t ((gc_eq (ga_o2 (f := (fun a b => (a &&& b))) (gr ((xs (x3).toNat).toInt)) kg_31) kg_12 z36 (by decide)).mpr c19) ?_
                                obtain ⟨z281, h⟩ := fx_gd h
                                refine gb_bind (gl_lds hL (ga_add e3 kg_1) z281) ?_
                                obtain ⟨z284, h⟩ := fx_gd h
                                refine gb_bind (gl_lds hL (ga_add e3 kg_2) z284) ?_
                                obtain ⟨q286, w285, h⟩ := fx_bd h
                                refine gb_bind (gf_97 (gr ((xs ((x3 + 1)).toNat).toInt)) (gr ((xs ((x3 + 2)).toNat).toInt)) es w285) ?_
                                refine gb_bind (gl_lds hL (ga_add e3 kg_1) z281) ?_
                                refine gb_bind (gl_lds hL (ga_add e3 kg_2) z284) ?_
                                obtain ⟨q292, w291, h⟩ := fx_bd h
                                refine gb_bind (gf_179 (gr ((xs ((x3 + 1)).toNat).toInt)) (gr ((xs ((x3 + 2)).toNat).toInt)) (rfl : _ = gx q286.2) w291) ?_
                                exact gf_236_1121 hL ih _ _ e3 _ _ (rfl : _ = gx q292.2) _ h
                              · rw [if_neg c19] at h
                                refine gb_f (fun q => c19 ((gc_eq (ga_o2 (f := (fun a b => (a &&& b))) (gr ((xs (x3).toNat).toInt)) kg_31) kg_12 z36 (by decide)).mp q)) ?_
                                by_cases c20 : ((Int32.ofInt ((xs (x3).toNat).toInt) &&& Int32.ofInt 31)).toInt = 13
                                · rw [if_pos c20] at h
                                  refine gb_t ((gc_eq (ga_o2 (f := (fun a b => (a &&& b))) (gr ((xs (x3).toNat).toInt)) kg_31) kg_13 z36 (by decide)).mpr c20) ?_
                                  obtain ⟨z257, h⟩ := fx_gd h
                                  refine gb_bind (gl_lds hL (ga_add e3 kg_1) z257) ?_
                                  obtain ⟨z260, h⟩ := fx_gd h
                                  refine gb_bind (gl_lds hL (ga_add e3 kg_2) z260) ?_
                                  obtain ⟨z263, h⟩ := fx_gd h
                                  refine gb_bind (gl_lds hL (ga_add e3 kg_3) z263) ?_
                                  obtain ⟨z266, h⟩ := fx_gd h
                                  refine gb_bind (gl_lds hL (ga_add e3 kg_4) z266) ?_
                                  obtain ⟨q268, w267, h⟩ := fx_bd h
                                  refine gb_bind (gf_98 (gr ((xs ((x3 + 1)).toNat).toInt)) (gr ((xs ((x3 + 2)).toNat).toInt)) (gr ((xs ((x3 + 3)).toNat).toInt)) (gr ((xs ((x3 + 4)).toNat).toInt)) es w267) ?_
                                  refine gb_bind (gl_lds hL (ga_add e3 kg_1) z257) ?_
                                  refine gb_bind (gl_lds hL (ga_add e3 kg_2) z260) ?_
                                  refine gb_bind (gl_lds hL (ga_add e3 kg_3) z263) ?_
                                  refine gb_bind (gl_lds hL (ga_add e3 kg_4) z266) ?_
                                  obtain ⟨q278, w277, h⟩ := fx_bd h
                                  refine gb_bind (gf_195 (gr ((xs ((x3 + 1)).toNat).toInt)) (gr ((xs ((x3 + 2)).toNat).toInt)) (gr ((xs ((x3 + 3)).toNat).toInt)) (gr ((xs ((x3 + 4)).toNat).toInt)) (rfl : _ = gx q268.2) w277) ?_
                                  exact gf_236_1121 hL ih _ _ e3 _ _ (rfl : _ = gx q278.2) _ h
                                · rw [if_neg c20] at h
                                  refine gb_f (fun q => c20 ((gc_eq (ga_o2 (f := (fun a b => (a &&& b))) (gr ((xs (x3).toNat).toInt)) kg_31) kg_13 z36 (by decide)).mp q)) ?_
                                  by_cases c21 : ((Int32.ofInt ((xs (x3).toNat).toInt) &&& Int32.ofInt 31)).toInt = 14
                                  · rw [if_pos c21] at h
                                    refine gb_t ((gc_eq (ga_o2 (f := (fun a b => (a &&& b))) (gr ((xs (x3).toNat).toInt)) kg_31) kg_14 z36 (by decide)).mpr c21) ?_
                                    obtain ⟨z238, h⟩ := fx_gd h
                                    refine gb_bind (gl_lds hL (ga_add e3 kg_1) z238) ?_
                                    obtain ⟨z241, h⟩ := fx_gd h
                                    refine gb_bind (gl_lds hL (ga_add e3 kg_2) z241) ?_
                                    obtain ⟨z244, h⟩ := fx_gd h
                                    refine gb_bind (gl_lds hL (ga_add e3 kg_3) z244) ?_
                                    obtain ⟨q246, w245, h⟩ := fx_bd h
                                    refine gb_bind (gf_99 (gr ((xs ((x3 + 1)).toNat).toInt)) (gr ((xs ((x3 + 2)).toNat).toInt)) (gr ((xs ((x3 + 3)).toNat).toInt)) es w245) ?_
                                    refine gb_bind (gl_lds hL (ga_add e3 kg_1) z238) ?_
                                    refine gb_bind (gl_lds hL (ga_add e3 kg_2) z241) ?_
                                    refine gb_bind (gl_lds hL (ga_add e3 kg_3) z244) ?_
                                    obtain ⟨q254, w253, h⟩ := fx_bd h
                                    refine gb_bind (gf_185 (gr ((xs ((x3 + 1)).toNat).toInt)) (gr ((xs ((x3 + 2)).toNat).toInt)) (gr ((xs ((x3 + 3)).toNat).toInt)) (rfl : _ = gx q246.2) w253) ?_
                                    exact gf_236_1121 hL ih _ _ e3 _ _ (rfl : _ = gx q254.2) _ h
                                  · rw [if_neg c21] at h
                                    refine gb_f (fun q => c21 ((gc_eq (ga_o2 (f := (fun a b => (a &&& b))) (gr ((xs (x3).toNat).toInt)) kg_31) kg_14 z36 (by decide)).mp q)) ?_
                                    by_cases c22 : ((Int32.ofInt ((xs (x3).toNat).toInt) &&& Int32.ofInt 31)).toInt = 15
                                    · rw [if_pos c22] at h
                                      refine gb_t ((gc_eq (ga_o2 (f := (fun a b => (a &&& b))) (gr ((xs (x3).toNat).toInt)) kg_31) kg_15 z36 (by decide)).mpr c22) ?_
                                      obtain ⟨z219, h⟩ := fx_gd h
                                      refine gb_bind (gl_lds hL (ga_add e3 kg_1) z219) ?_
                                      obtain ⟨z222, h⟩ := fx_gd h
                                      refine gb_bind (gl_lds hL (ga_add e3 kg_2) z222) ?_
                                      obtain ⟨z225, h⟩ := fx_gd h
                                      refine gb_bind (gl_lds hL (ga_add e3 kg_3) z225) ?_
                                      obtain ⟨q227, w226, h⟩ := fx_bd h
                                      refine gb_bind (gf_100 (gr ((xs ((x3 + 1)).toNat).toInt)) (gr ((xs ((x3 + 2)).toNat).toInt)) (gr ((xs ((x3 + 3)).toNat).toInt)) es w226) ?_
                                      refine gb_bind (gl_lds hL (ga_add e3 kg_1) z219) ?_
                                      refine gb_bind (gl_lds hL (ga_add e3 kg_2) z222) ?_
                                      refine gb_bind (gl_lds hL (ga_add e3 kg_3) z225) ?_
                                      obtain ⟨q235, w234, h⟩ := fx_bd h
                                      refine gb_bind (gf_196 (gr ((xs ((x3 + 1)).toNat).toInt)) (gr ((xs ((x3 + 2)).toNat).toInt)) (gr ((xs ((x3 + 3)).toNat).toInt)) (rfl : _ = gx q227.2) w234) ?_
                                      exact gf_236_1121 hL ih _ _ e3 _ _ (rfl : _ = gx q235.2) _ h
                                    · rw [if_neg c22] at h
                                      refine gb_f (fun q => c22 ((gc_eq (ga_o2 (f := (fun a b => (a &&& b))) (gr ((xs (x3).toNat).toInt)) kg_31) kg_15 z36 (by decide)).mp q)) ?_
                                      by_cases c23 : ((Int32.ofInt ((xs (x3).toNat).toInt) &&& Int32.ofInt 31)).toInt = 16
                                      · rw [if_pos c23] at h
                                        refine gb_t ((gc_eq (ga_o2 (f := (fun a b => (a &&& b))) (gr ((xs (x3).toNat).toInt)) kg_31) kg_16 z36 (by decide)).mpr c23) ?_
                                        obtain ⟨z200, h⟩ := fx_gd h
                                        refine gb_bind (gl_lds hL (ga_add e3 kg_1) z200) ?_
                                        obtain ⟨z203, h⟩ := fx_gd h
                                        refine gb_bind (gl_lds hL (ga_add e3 kg_2) z203) ?_
                                        obtain ⟨z206, h⟩ := fx_gd h
                                        refine gb_bind (gl_lds hL (ga_add e3 kg_3) z206) ?_
                                        obtain ⟨q208, w207, h⟩ := fx_bd h
                                        refine gb_bind (gf_101 (gr ((xs ((x3 + 1)).toNat).toInt)) (gr ((xs ((x3 + 2)).toNat).toInt)) (gr ((xs ((x3 + 3)).toNat).toInt)) es w207) ?_
                                        refine gb_bind (gl_lds hL (ga_add e3 kg_1) z200) ?_
                                        refine gb_bind (gl_lds hL (ga_add e3 kg_2) z203) ?_
                                        refine gb_bind (gl_lds hL (ga_add e3 kg_3) z206) ?_
                                        obtain ⟨q216, w215, h⟩ := fx_bd h
                                        refine gb_bind (gf_188 (gr ((xs ((x3 + 1)).toNat).toInt)) (gr ((xs ((x3 + 2)).toNat).toInt)) (gr ((xs ((x3 + 3)).toNat).toInt)) (rfl : _ = gx q208.2) w215) ?_
                                        exact gf_236_1121 hL ih _ _ e3 _ _ (rfl : _ = gx q216.2) _ h
                                      · rw [if_neg c23] at h
                                        refine gb_f (fun q => c23 ((gc_eq (ga_o2 (f := (fun a b => (a &&& b))) (gr ((xs (x3).toNat).toInt)) kg_31) kg_16 z36 (by decide)).mp q)) ?_
                                        by_cases c24 : ((Int32.ofInt ((xs (x3).toNat).toInt) &&& Int32.ofInt 31)).toInt = 17
                                        · rw [if_pos c24] at h
                                          refine gb_t ((gc_eq (ga_o2 (f := (fun a b => (a &&& b))) (gr ((xs (x3).toNat).toInt)) kg_31) kg_17 z36 (by decide)).mpr c24) ?_
                                          obtain ⟨z186, h⟩ := fx_gd h
                                          refine gb_bind (gl_lds hL (ga_add e3 kg_1) z186) ?_
                                          obtain ⟨z189, h⟩ := fx_gd h
                                          refine gb_bind (gl_lds hL (ga_add e3 kg_2) z189) ?_
                                          obtain ⟨q191, w190, h⟩ := fx_bd h
                                          refine gb_bind (gf_102 (gr ((xs ((x3 + 1)).toNat).toInt)) (gr ((xs ((x3 + 2)).toNat).toInt)) es w190) ?_
                                          refine gb_bind (gl_lds hL (ga_add e3 kg_1) z186) ?_
                                          refine gb_bind (gl_lds hL (ga_add e3 kg_2) z189) ?_
                                          obtain ⟨q197, w196, h⟩ := fx_bd h
                                          refine gb_bind (gf_210 (gr ((xs ((x3 + 1)).toNat).toInt)) (gr ((xs ((x3 + 2)).toNat).toInt)) (rfl : _ = gx q191.2) w196) ?_
                                          exact gf_236_1121 hL ih _ _ e3 _ _ (rfl : _ = gx q197.2) _ h
                                        · rw [if_neg c24] at h
                                          refine gb_f (fun q => c24 ((gc_eq (ga_o2 (f := (fun a b => (a &&& b))) (gr ((xs (x3).toNat).toInt)) kg_31) kg_17 z36 (by decide)).mp q)) ?_
                                          by_cases c25 : ((Int32.ofInt ((xs (x3).toNat).toInt) &&& Int32.ofInt 31)).toInt = 18
                                          · rw [if_pos c25] at h
                                            refine gb_t ((gc_eq (ga_o2 (f := (fun a b => (a &&& b))) (gr ((xs (x3).toNat).toInt)) kg_31) kg_18 z36 (by decide)).mpr c25) ?_
                                            obtain ⟨z172, h⟩ := fx_gd h
                                            refine gb_bind (gl_lds hL (ga_add e3 kg_1) z172) ?_
                                            obtain ⟨z175, h⟩ := fx_gd h
                                            refine gb_bind (gl_lds hL (ga_add e3 kg_2) z175) ?_
                                            obtain ⟨q177, w176, h⟩ := fx_bd h
                                            refine gb_bind (gf_103 (gr ((xs ((x3 + 1)).toNat).toInt)) (gr ((xs ((x3 + 2)).toNat).toInt)) es w176) ?_
                                            refine gb_bind (gl_lds hL (ga_add e3 kg_1) z172) ?_
                                            refine gb_bind (gl_lds hL (ga_add e3 kg_2) z175) ?_
                                            obtain ⟨q183, w182, h⟩ := fx_bd h
                                            refine gb_bind (gf_189 (gr ((xs ((x3 + 1)).toNat).toInt)) (gr ((xs ((x3 + 2)).toNat).toInt)) (rfl : _ = gx q177.2) w182) ?_
                                            exact gf_236_1121 hL ih _ _ e3 _ _ (rfl : _ = gx q183.2) _ h
                                          · rw [if_neg c25] at h
                                            refine gb_f (fun q => c25 ((gc_eq (ga_o2 (f := (fun a b => (a &&& b))) (gr ((xs (x3).toNat).toInt)) kg_31) kg_18 z36 (by decide)).mp q)) ?_
                                            by_cases c26 : ((Int32.ofInt ((xs (x3).toNat).toInt) &&& Int32.ofInt 31)).toInt = 19
                                            · rw [if_pos c26] at h
                                              refine gb_t ((gc_eq (ga_o2 (f := (fun a b => (a &&& b))) (gr ((xs (x3).toNat).toInt)) kg_31) kg_19 z36 (by decide)).mpr c26) ?_
                                              obtain ⟨z158, h⟩ := fx_gd h
                                              refine gb_bind (gl_lds hL (ga_add e3 kg_1) z158) ?_
                                              obtain ⟨z161, h⟩ := fx_gd h
                                              refine gb_bind (gl_lds hL (ga_add e3 kg_2) z161) ?_
                                              obtain ⟨q163, w162, h⟩ := fx_bd h
                                              refine gb_bind (gf_104 (gr ((xs ((x3 + 1)).toNat).toInt)) (gr ((xs ((x3 + 2)).toNat).toInt)) es w162) ?_
                                              refine gb_bind (gl_lds hL (ga_add e3 kg_1) z158) ?_
                                              refine gb_bind (gl_lds hL (ga_add e3 kg_2) z161) ?_
                                              obtain ⟨q169, w168, h⟩ := fx_bd h
                                              refine gb_bind (gf_192 (gr ((xs ((x3 + 1)).toNat).toInt)) (gr ((xs ((x3 + 2)).toNat).toInt)) (rfl : _ = gx q163.2) w168) ?_
                                              exact gf_236_1121 hL ih _ _ e3 _ _ (rfl : _ = gx q169.2) _ h
                                            · rw [if_neg c26] at h
                                              refine gb_f (fun q => c26 ((gc_eq (ga_o2 (f := (fun a b => (a &&& b))) (gr ((xs (x3).toNat).toInt)) kg_31) kg_19 z36 (by decide)).mp q)) ?_
                                              by_cases c27 : ((Int32.ofInt ((xs (x3).toNat).toInt) &&& Int32.ofInt 31)).toInt = 20
                                              · rw [if_pos c27] at h
                                                refine gb_t ((gc_eq (ga_o2 (f := (fun a b => (a &&& b))) (gr ((xs (x3).toNat).toInt)) kg_31) kg_20 z36 (by decide)).mpr c27) ?_
                                                obtain ⟨z149, h⟩ := fx_gd h
                                                refine gb_bind (gl_lds hL (ga_add e3 kg_1) z149) ?_
                                                obtain ⟨q151, w150, h⟩ := fx_bd h
                                                refine gb_bind (gf_105 (gr ((xs ((x3 + 1)).toNat).toInt)) es w150) ?_
                                                refine gb_bind (gl_lds hL (ga_add e3 kg_1) z149) ?_
                                                obtain ⟨q155, w154, h⟩ := fx_bd h
                                                refine gb_bind (gf_193 (gr ((xs ((x3 + 1)).toNat).toInt)) (rfl : _ = gx q151.2) w154) ?_
                                                exact gf_236_1121 hL ih _ _ e3 _ _ (rfl : _ = gx q155.2) _ h
                                              · rw [if_neg c27] at h
                                                refine gb_f (fun q => c27 ((gc_eq (ga_o2 (f := (fun a b => (a &&& b))) (gr ((xs (x3).toNat).toInt)) kg_31) kg_20 z36 (by decide)).mp q)) ?_
                                                by_cases c28 : ((Int32.ofInt ((xs (x3).toNat).toInt) &&& Int32.ofInt 31)).toInt = 21
                                                · rw [if_pos c28] at h
                                                  refine gb_t ((gc_eq (ga_o2 (f := (fun a b => (a &&& b))) (gr ((xs (x3).toNat).toInt)) kg_31) kg_21 z36 (by decide)).mpr c28) ?_
                                                  obtain ⟨z125, h⟩ := fx_gd h
                                                  refine gb_bind (gl_lds hL (ga_add e3 kg_1) z125) ?_
                                                  obtain ⟨z128, h⟩ := fx_gd h
                                                  refine gb_bind (gl_lds hL (ga_add e3 kg_2) z128) ?_
                                                  obtain ⟨z131, h⟩ := fx_gd h
                                                  refine gb_bind (gl_lds hL (ga_add e3 kg_3) z131) ?_
                                                  obtain ⟨z134, h⟩ := fx_gd h
                                                  refine gb_bind (gl_lds hL (ga_add e3 kg_4) z134) ?_
                                                  obtain ⟨q136, w135, h⟩ := fx_bd h
                                                  refine gb_bind (gf_106 (gr ((xs ((x3 + 1)).toNat).toInt)) (gr ((xs ((x3 + 2)).toNat).toInt)) (gr ((xs ((x3 + 3)).toNat).toInt)) (gr ((xs ((x3 + 4)).toNat).toInt)) es w135) ?_
                                                  refine gb_bind (gl_lds hL (ga_add e3 kg_1) z125) ?_
                                                  refine gb_bind (gl_lds hL (ga_add e3 kg_2) z128) ?_
                                                  refine gb_bind (gl_lds hL (ga_add e3 kg_3) z131) ?_
                                                  refine gb_bind (gl_lds hL (ga_add e3 kg_4) z134) ?_
                                                  obtain ⟨q146, w145, h⟩ := fx_bd h
                                                  refine gb_bind (gf_199 (gr ((xs ((x3 + 1)).toNat).toInt)) (gr ((xs ((x3 + 2)).toNat).toInt)) (gr ((xs ((x3 + 3)).toNat).toInt)) (gr ((xs ((x3 + 4)).toNat).toInt)) (rfl : _ = gx q136.2) w145) ?_
                                                  exact gf_236_1121 hL ih _ _ e3 _ _ (rfl : _ = gx q146.2) _ h
                                                · rw [if_neg c28] at h
                                                  refine gb_f (fun q => c28 ((gc_eq (ga_o2 (f := (fun a b => (a &&& b))) (gr ((xs (x3).toNat).toInt)) kg_31) kg_21 z36 (by decide)).mp q)) ?_
                                                  by_cases c29 : ((Int32.ofInt ((xs (x3).toNat).toInt) &&& Int32.ofInt 31)).toInt = 22
                                                  · rw [if_pos c29] at h
                                                    refine gb_t ((gc_eq (ga_o2 (f := (fun a b => (a &&& b))) (gr ((xs (x3).toNat).toInt)) kg_31) kg_22 z36 (by decide)).mpr c29) ?_
                                                    obtain ⟨z111, h⟩ := fx_gd h
                                                    refine gb_bind (gl_lds hL (ga_add e3 kg_1) z111) ?_
                                                    obtain ⟨z114, h⟩ := fx_gd h
                                                    refine gb_bind (gl_lds hL (ga_add e3 kg_2) z114) ?_
                                                    obtain ⟨q116, w115, h⟩ := fx_bd h
                                                    refine gb_bind (gf_107 (gr ((xs ((x3 + 1)).toNat).toInt)) (gr ((xs ((x3 + 2)).toNat).toInt)) es w115) ?_
                                                    refine gb_bind (gl_lds hL (ga_add e3 kg_1) z111) ?_
                                                    refine gb_bind (gl_lds hL (ga_add e3 kg_2) z114) ?_
                                                    obtain ⟨q122, w121, h⟩ := fx_bd h
                                                    refine gb_bind (gf_201 (gr ((xs ((x3 + 1)).toNat).toInt)) (gr ((xs ((x3 + 2)).toNat).toInt)) (rfl : _ = gx q116.2) w121) ?_
                                                    exact gf_236_1121 hL ih _ _ e3 _ _ (rfl : _ = gx q122.2) _ h
                                                  · rw [if_neg c29] at h
                                                    refine gb_f (fun q => c29 ((gc_eq (ga_o2 (f := (fun a b => (a &&& b))) (gr ((xs (x3).toNat).toInt)) kg_31) kg_22 z36 (by decide)).mp q)) ?_
                                                    by_cases c30 : ((Int32.ofInt ((xs (x3).toNat).toInt) &&& Int32.ofInt 31)).toInt = 23
                                                    · rw [if_pos c30] at h
                                                      refine gb_t ((gc_eq (ga_o2 (f := (fun a b => (a &&& b))) (gr ((xs (x3).toNat).toInt)) kg_31) kg_23 z36 (by decide)).mpr c30) ?_
                                                      obtain ⟨z92, h⟩ := fx_gd h
                                                      refine gb_bind (gl_lds hL (ga_add e3 kg_1) z92) ?_
                                                      obtain ⟨z95, h⟩ := fx_gd h
                                                      refine gb_bind (gl_lds hL (ga_add e3 kg_2) z95) ?_
                                                      obtain ⟨z98, h⟩ := fx_gd h
                                                      refine gb_bind (gl_lds hL (ga_add e3 kg_3) z98) ?_
                                                      obtain ⟨q100, w99, h⟩ := fx_bd h
                                                      refine gb_bind (gf_108 (gr ((xs ((x3 + 1)).toNat).toInt)) (gr ((xs ((x3 + 2)).toNat).toInt)) (gr ((xs ((x3 + 3)).toNat).toInt)) es w99) ?_
                                                      refine gb_bind (gl_lds hL (ga_add e3 kg_1) z92) ?_
                                                      refine gb_bind (gl_lds hL (ga_add e3 kg_2) z95) ?_
                                                      refine gb_bind (gl_lds hL (ga_add e3 kg_3) z98) ?_
                                                      obtain ⟨q108, w107, h⟩ := fx_bd h
                                                      refine gb_bind (gf_203 (gr ((xs ((x3 + 1)).toNat).toInt)) (gr ((xs ((x3 + 2)).toNat).toInt)) (gr ((xs ((x3 + 3)).toNat).toInt)) (rfl : _ = gx q100.2) w107) ?_
                                                      exact gf_236_1121 hL ih _ _ e3 _ _ (rfl : _ = gx q108.2) _ h
                                                    · rw [if_neg c30] at h
                                                      refine gb_f (fun q => c30 ((gc_eq (ga_o2 (f := (fun a b => (a &&& b))) (gr ((xs (x3).toNat).toInt)) kg_31) kg_23 z36 (by decide)).mp q)) ?_
                                                      by_cases c31 : ((Int32.ofInt ((xs (x3).toNat).toInt) &&& Int32.ofInt 31)).toInt = 24
                                                      · rw [if_pos c31] at h
                                                        refine gb_t ((gc_eq (ga_o2 (f := (fun a b => (a &&& b))) (gr ((xs (x3).toNat).toInt)) kg_31) kg_24 z36 (by decide)).mpr c31) ?_
                                                        obtain ⟨z83, h⟩ := fx_gd h
                                                        refine gb_bind (gl_lds hL (ga_add e3 kg_1) z83) ?_
                                                        obtain ⟨q85, w84, h⟩ := fx_bd h
                                                        refine gb_bind (gf_109 (gr ((xs ((x3 + 1)).toNat).toInt)) es w84) ?_
                                                        refine gb_bind (gl_lds hL (ga_add e3 kg_1) z83) ?_
                                                        obtain ⟨q89, w88, h⟩ := fx_bd h
                                                        refine gb_bind (gf_204 (gr ((xs ((x3 + 1)).toNat).toInt)) (rfl : _ = gx q85.2) w88) ?_
                                                        exact gf_236_1121 hL ih _ _ e3 _ _ (rfl : _ = gx q89.2) _ h
                                                      · rw [if_neg c31] at h
                                                        refine gb_f (fun q => c31 ((gc_eq (ga_o2 (f := (fun a b => (a &&& b))) (gr ((xs (x3).toNat).toInt)) kg_31) kg_24 z36 (by decide)).mp q)) ?_
                                                        by_cases c32 : ((Int32.ofInt ((xs (x3).toNat).toInt) &&& Int32.ofInt 31)).toInt = 25
                                                        · rw [if_pos c32] at h
                                                          refine gb_t ((gc_eq (ga_o2 (f := (fun a b => (a &&& b))) (gr ((xs (x3).toNat).toInt)) kg_31) kg_25 z36 (by decide)).mpr c32) ?_
                                                          obtain ⟨z74, h⟩ := fx_gd h
                                                          refine gb_bind (gl_lds hL (ga_add e3 kg_1) z74) ?_
                                                          obtain ⟨q76, w75, h⟩ := fx_bd h
                                                          refine gb_bind (gf_110 (gr ((xs ((x3 + 1)).toNat).toInt)) es w75) ?_
                                                          refine gb_bind (gl_lds hL (ga_add e3 kg_1) z74) ?_
                                                          obtain ⟨q80, w79, h⟩ := fx_bd h
                                                          refine gb_bind (gf_223 (gr ((xs ((x3 + 1)).toNat).toInt)) (rfl : _ = gx q76.2) w79) ?_
                                                          exact gf_236_1121 hL ih _ _ e3 _ _ (rfl : _ = gx q80.2) _ h
                                                        · rw [if_neg c32] at h
                                                          refine gb_f (fun q => c32 ((gc_eq (ga_o2 (f := (fun a b => (a &&& b))) (gr ((xs (x3).toNat).toInt)) kg_31) kg_25 z36 (by decide)).mp q)) ?_
                                                          by_cases c33 : ((Int32.ofInt ((xs (x3).toNat).toInt) &&& Int32.ofInt 31)).toInt = 26
                                                          · rw [if_pos c33] at h
                                                            refine gb_t ((gc_eq (ga_o2 (f := (fun a b => (a &&& b))) (gr ((xs (x3).toNat).toInt)) kg_31) kg_26 z36 (by decide)).mpr c33) ?_
                                                            obtain ⟨z65, h⟩ := fx_gd h
                                                            refine gb_bind (gl_lds hL (ga_add e3 kg_1) z65) ?_
                                                            obtain ⟨q67, w66, h⟩ := fx_bd h
                                                            refine gb_bind (gf_111 (gr ((xs ((x3 + 1)).toNat).toInt)) es w66) ?_
                                                            refine gb_bind (gl_lds hL (ga_add e3 kg_1) z65) ?_
                                                            obtain ⟨q71, w70, h⟩ := fx_bd h
                                                            refine gb_bind (gf_226 (gr ((xs ((x3 + 1)).toNat).toInt)) (rfl : _ = gx q67.2) w70) ?_
                                                            exact gf_236_1121 hL ih _ _ e3 _ _ (rfl : _ = gx q71.2) _ h
                                                          · rw [if_neg c33] at h
                                                            refine gb_f (fun q => c33 ((gc_eq (ga_o2 (f := (fun a b => (a &&& b))) (gr ((xs (x3).toNat).toInt)) kg_31) kg_26 z36 (by decide)).mp q)) ?_
                                                            by_cases c34 : ((Int32.ofInt ((xs (x3).toNat).toInt) &&& Int32.ofInt 31)).toInt = 27
                                                            · rw [if_pos c34] at h
                                                              refine gb_t ((gc_eq (ga_o2 (f := (fun a b => (a &&& b))) (gr ((xs (x3).toNat).toInt)) kg_31) kg_27 z36 (by decide)).mpr c34) ?_
                                                              obtain ⟨z51, h⟩ := fx_gd h
                                                              refine gb_bind (gl_lds hL (ga_add e3 kg_1) z51) ?_
                                                              obtain ⟨z54, h⟩ := fx_gd h
                                                              refine gb_bind (gl_lds hL (ga_add e3 kg_2) z54) ?_
                                                              obtain ⟨q56, w55, h⟩ := fx_bd h
                                                              refine gb_bind (gf_112 (gr ((xs ((x3 + 1)).toNat).toInt)) (gr ((xs ((x3 + 2)).toNat).toInt)) es w55) ?_
                                                              refine gb_bind (gl_lds hL (ga_add e3 kg_1) z51) ?_
                                                              refine gb_bind (gl_lds hL (ga_add e3 kg_2) z54) ?_
                                                              obtain ⟨q62, w61, h⟩ := fx_bd h
                                                              refine gb_bind (gf_227 (gr ((xs ((x3 + 1)).toNat).toInt)) (gr ((xs ((x3 + 2)).toNat).toInt)) (rfl : _ = gx q56.2) w61) ?_
                                                              exact gf_236_1121 hL ih _ _ e3 _ _ (rfl : _ = gx q62.2) _ h
                                                            · rw [if_neg c34] at h
                                                              refine gb_f (fun q => c34 ((gc_eq (ga_o2 (f := (fun a b => (a &&& b))) (gr ((xs (x3).toNat).toInt)) kg_31) kg_27 z36 (by decide)).mp q)) ?_
                                                              by_cases c35 : ((Int32.ofInt ((xs (x3).toNat).toInt) &&& Int32.ofInt 31)).toInt = 28
                                                              · rw [if_pos c35] at h
                                                                refine gb_t ((gc_eq (ga_o2 (f := (fun a b => (a &&& b))) (gr ((xs (x3).toNat).toInt)) kg_31) kg_28 z36 (by decide)).mpr c35) ?_
                                                                obtain ⟨z39, h⟩ := fx_gd h
                                                                refine gb_bind (gl_lds hL (ga_add e3 kg_1) z39) ?_
                                                                obtain ⟨q41, w40, h⟩ := fx_bd h
                                                                refine gb_bind (gf_113 (gr ((xs ((x3 + 1)).toNat).toInt)) es w40) ?_
                                                                refine gb_bind (gl_lds hL (ga_add e3 kg_1) z39) ?_
                                                                obtain ⟨q45, w44, h⟩ := fx_bd h
                                                                refine gb_bind (gf_228 (gr ((xs ((x3 + 1)).toNat).toInt)) (rfl : _ = gx q41.2) w44) ?_
                                                                obtain ⟨z46, h⟩ := fx_gd h
                                                                obtain ⟨z47, h⟩ := fx_gd h
                                                                by_cases c48 : q41.1 = q45.1
                                                                · rw [if_pos c48] at h
                                                                  refine gb_t ((gc_eq (gr q41.1) (gr q45.1) z46 z47).mpr c48) ?_
                                                                  exact gf_236_1121 hL ih _ _ e3 _ _ (rfl : _ = gx q45.2) _ h
                                                                · rw [if_neg c48] at h
                                                                  refine gb_f (fun q => c48 ((gc_eq (gr q41.1) (gr q45.1) z46 z47).mp q)) ?_
                                                                  have h := Option.some.inj h
                                                                  subst h
                                                                  exact gretb (rfl : _ = gx q45.2)
                                                              · rw [if_neg c35] at h
                                                                refine gb_f (fun q => c35 ((gc_eq (ga_o2 (f := (fun a b => (a &&& b))) (gr ((xs (x3).toNat).toInt)) kg_31) kg_28 z36 (by decide)).mp q)) ?_
                                                                exact gf_236_1121 hL ih _ _ e3 _ _ es _ h
