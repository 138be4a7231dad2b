/-! the law -/
def gm_236_1121 (L : Nat) (xs : Nat → Int32) (k_18 : Int → gx_S → Option (Bool × gx_S)) (x3 : Int) (s : gx_S) : Option (Bool × gx_S) :=
  k_18 (x3 + 6) s
theorem gf_236_1121 {L : Nat} {xs : Nat → Int32} (hL : L ≤ 100000) {kf_18 : Int32 → fx_S → Option (Bool × fx_S)} {kg_18 : Int → gx_S → Option (Bool × gx_S)} (hk_18 : ∀ (x3 : Int) (yx3 : Int32) (e3 : yx3 = Int32.ofInt x3) (s : gx_S) (σ : fx_S) (es : σ = gx s) (q : Bool × gx_S), kg_18 x3 s = some q → kf_18 yx3 σ = some (q.1, gx q.2)) (x3 : Int) (yx3 : Int32) (e3 : yx3 = Int32.ofInt x3) (s : gx_S) (σ : fx_S) (es : σ = gx s) (q : Bool × gx_S) (h : gm_236_1121 L xs kg_18 x3 s = some q) : fm_236_1121 L xs kf_18 yx3 σ = some (q.1, gx q.2) := by
  unfold gm_236_1121 at h
  unfold fm_236_1121
  exact hk_18 _ _ (ga_add e3 kg_6) _ _ es _ h
def gm_236_18 (L : Nat) (xs : Nat → Int32) : Nat → Int → gx_S → Option (Bool × gx_S)
  | 0, _, _ => none
  | n + 1, x3, s =>
    if (-2147483648 ≤ x3 ∧ x3 ≤ 2147483647) then (
    if (-2147483648 ≤ ((L : Int) - 6) ∧ ((L : Int) - 6) ≤ 2147483647) then (
    if ((L : Int) - 6) < x3 then (
      some (true, s)) else (
      if 0 ≤ x3 ∧ x3 < (L : Int) then (
      if (-2147483648 ≤ ((Int32.ofInt ((xs (x3).toNat).toInt) &&& Int32.ofInt 31)).toInt ∧ ((Int32.ofInt ((xs (x3).toNat).toInt) &&& Int32.ofInt 31)).toInt ≤ 2147483647) then (
      if ((Int32.ofInt ((xs (x3).toNat).toInt) &&& Int32.ofInt 31)).toInt = 0 then (
        if 0 ≤ (x3 + 1) ∧ (x3 + 1) < (L : Int) then (
        if 0 ≤ (x3 + 2) ∧ (x3 + 2) < (L : Int) then (
        if 0 ≤ (x3 + 3) ∧ (x3 + 3) < (L : Int) then (
        if 0 ≤ (x3 + 4) ∧ (x3 + 4) < (L : Int) then (
        if 0 ≤ (x3 + 5) ∧ (x3 + 5) < (L : Int) then (
        (gm_85 ((xs ((x3 + 1)).toNat).toInt) ((xs ((x3 + 2)).toNat).toInt) ((xs ((x3 + 3)).toNat).toInt) ((xs ((x3 + 4)).toNat).toInt) ((xs ((x3 + 5)).toNat).toInt) s).bind fun q432 =>
        (gm_134 ((xs ((x3 + 1)).toNat).toInt) ((xs ((x3 + 2)).toNat).toInt) ((xs ((x3 + 3)).toNat).toInt) ((xs ((x3 + 4)).toNat).toInt) ((xs ((x3 + 5)).toNat).toInt) q432.2).bind fun q444 =>
        gm_236_1121 L xs (gm_236_18 L xs n) x3 q444.2) else none) else none) else none) else none) else none) else (
        if ((Int32.ofInt ((xs (x3).toNat).toInt) &&& Int32.ofInt 31)).toInt = 1 then (
          if 0 ≤ (x3 + 1) ∧ (x3 + 1) < (L : Int) then (
          (gm_86 ((xs ((x3 + 1)).toNat).toInt) s).bind fun q411 =>
          (gm_136 ((xs ((x3 + 1)).toNat).toInt) q411.2).bind fun q415 =>
          gm_236_1121 L xs (gm_236_18 L xs n) x3 q415.2) else none) else (
          if ((Int32.ofInt ((xs (x3).toNat).toInt) &&& Int32.ofInt 31)).toInt = 2 then (
            if 0 ≤ (x3 + 1) ∧ (x3 + 1) < (L : Int) then (
            (gm_87 ((xs ((x3 + 1)).toNat).toInt) s).bind fun q402 =>
            (gm_145 ((xs ((x3 + 1)).toNat).toInt) q402.2).bind fun q406 =>
            gm_236_1121 L xs (gm_236_18 L xs n) x3 q406.2) else none) else (
            if ((Int32.ofInt ((xs (x3).toNat).toInt) &&& Int32.ofInt 31)).toInt = 3 then (
              if 0 ≤ (x3 + 1) ∧ (x3 + 1) < (L : Int) then (
              (gm_88 ((xs ((x3 + 1)).toNat).toInt) s).bind fun q393 =>
              (gm_149 ((xs ((x3 + 1)).toNat).toInt) q393.2).bind fun q397 =>
              gm_236_1121 L xs (gm_236_18 L xs n) x3 q397.2) else none) else (
              if ((Int32.ofInt ((xs (x3).toNat).toInt) &&& Int32.ofInt 31)).toInt = 4 then (
                if 0 ≤ (x3 + 1) ∧ (x3 + 1) < (L : Int) then (
                if 0 ≤ (x3 + 2) ∧ (x3 + 2) < (L : Int) then (
                if 0 ≤ (x3 + 3) ∧ (x3 + 3) < (L : Int) then (
                (gm_89 ((xs ((x3 + 1)).toNat).toInt) ((xs ((x3 + 2)).toNat).toInt) ((xs ((x3 + 3)).toNat).toInt) s).bind fun q380 =>
                (gm_214 ((xs ((x3 + 1)).toNat).toInt) ((xs ((x3 + 2)).toNat).toInt) ((xs ((x3 + 3)).toNat).toInt) q380.2).bind fun q388 =>
                gm_236_1121 L xs (gm_236_18 L xs n) x3 q388.2) else none) else none) else none) else (
                if ((Int32.ofInt ((xs (x3).toNat).toInt) &&& Int32.ofInt 31)).toInt = 5 then (
                  if 0 ≤ (x3 + 1) ∧ (x3 + 1) < (L : Int) then (
                  if 0 ≤ (x3 + 2) ∧ (x3 + 2) < (L : Int) then (
                  (gm_90 ((xs ((x3 + 1)).toNat).toInt) ((xs ((x3 + 2)).toNat).toInt) s).bind fun q363 =>
                  (gm_215 ((xs ((x3 + 1)).toNat).toInt) ((xs ((x3 + 2)).toNat).toInt) q363.2).bind fun q369 =>
                  gm_236_1121 L xs (gm_236_18 L xs n) x3 q369.2) else none) else none) else (
                  if ((Int32.ofInt ((xs (x3).toNat).toInt) &&& Int32.ofInt 31)).toInt = 6 then (
                    if 0 ≤ (x3 + 1) ∧ (x3 + 1) < (L : Int) then (
                    if 0 ≤ (x3 + 2) ∧ (x3 + 2) < (L : Int) then (
                    (gm_91 ((xs ((x3 + 1)).toNat).toInt) ((xs ((x3 + 2)).toNat).toInt) s).bind fun q349 =>
                    (gm_216 ((xs ((x3 + 1)).toNat).toInt) ((xs ((x3 + 2)).toNat).toInt) q349.2).bind fun q355 =>
                    gm_236_1121 L xs (gm_236_18 L xs n) x3 q355.2) else none) else none) else (
                    if ((Int32.ofInt ((xs (x3).toNat).toInt) &&& Int32.ofInt 31)).toInt = 7 then (
                      if 0 ≤ (x3 + 1) ∧ (x3 + 1) < (L : Int) then (
                      (gm_92 ((xs ((x3 + 1)).toNat).toInt) s).bind fun q337 =>
                      (gm_212 ((xs ((x3 + 1)).toNat).toInt) q337.2).bind fun q341 =>
                      gm_236_1121 L xs (gm_236_18 L xs n) x3 q341.2) else none) else (
                      if ((Int32.ofInt ((xs (x3).toNat).toInt) &&& Int32.ofInt 31)).toInt = 8 then (
                        (gm_93 s).bind fun q330 =>
                        (gm_217 q330.2).bind fun q332 =>
                        gm_236_1121 L xs (gm_236_18 L xs n) x3 q332.2) else (
                        if ((Int32.ofInt ((xs (x3).toNat).toInt) &&& Int32.ofInt 31)).toInt = 9 then (
                          (gm_94 s).bind fun q326 =>
                          (gm_133 q326.2).bind fun q328 =>
                          gm_236_1121 L xs (gm_236_18 L xs n) x3 q328.2) else (
                          if ((Int32.ofInt ((xs (x3).toNat).toInt) &&& Int32.ofInt 31)).toInt = 10 then (
                            if 0 ≤ (x3 + 1) ∧ (x3 + 1) < (L : Int) then (
                            if 0 ≤ (x3 + 2) ∧ (x3 + 2) < (L : Int) then (
                            if 0 ≤ (x3 + 3) ∧ (x3 + 3) < (L : Int) then (
                            (gm_95 ((xs ((x3 + 1)).toNat).toInt) ((xs ((x3 + 2)).toNat).toInt) ((xs ((x3 + 3)).toNat).toInt) s).bind fun q316 =>
                            (gm_218 ((xs ((x3 + 1)).toNat).toInt) ((xs ((x3 + 2)).toNat).toInt) ((xs ((x3 + 3)).toNat).toInt) q316.2).bind fun q324 =>
                            gm_236_1121 L xs (gm_236_18 L xs n) x3 q324.2) else none) else none) else none) else (
                            if ((Int32.ofInt ((xs (x3).toNat).toInt) &&& Int32.ofInt 31)).toInt = 11 then (
                              if 0 ≤ (x3 + 1) ∧ (x3 + 1) < (L : Int) then (
                              if 0 ≤ (x3 + 2) ∧ (x3 + 2) < (L : Int) then (
                              (gm_96 ((xs ((x3 + 1)).toNat).toInt) ((xs ((x3 + 2)).toNat).toInt) s).bind fun q297 =>
                              (gm_220 ((xs ((x3 + 1)).toNat).toInt) ((xs ((x3 + 2)).toNat).toInt) q297.2).bind fun q303 =>
                              if q297.1 = q303.1 then (
                              gm_236_1121 L xs (gm_236_18 L xs n) x3 q303.2) else none) else none) else none) else (
                              if ((Int32.ofInt ((xs (x3).toNat).toInt) &&& Int32.ofInt 31)).toInt = 12 then (
                                if 0 ≤ (x3 + 1) ∧ (x3 + 1) < (L : Int) then (
                                if 0 ≤ (x3 + 2) ∧ (x3 + 2) < (L : Int) then (
                                (gm_97 ((xs ((x3 + 1)).toNat).toInt) ((xs ((x3 + 2)).toNat).toInt) s).bind fun q283 =>
                                (gm_179 ((xs ((x3 + 1)).toNat).toInt) ((xs ((x3 + 2)).toNat).toInt) q283.2).bind fun q289 =>
                                gm_236_1121 L xs (gm_236_18 L xs n) x3 q289.2) else none) else none) else (
                                if ((Int32.ofInt ((xs (x3).toNat).toInt) &&& Int32.ofInt 31)).toInt = 13 then (
                                  if 0 ≤ (x3 + 1) ∧ (x3 + 1) < (L : Int) then (
                                  if 0 ≤ (x3 + 2) ∧ (x3 + 2) < (L : Int) then (
                                  if 0 ≤ (x3 + 3) ∧ (x3 + 3) < (L : Int) then (
                                  if 0 ≤ (x3 + 4) ∧ (x3 + 4) < (L : Int) then (
                                  (gm_98 ((xs ((x3 + 1)).toNat).toInt) ((xs ((x3 + 2)).toNat).toInt) ((xs ((x3 + 3)).toNat).toInt) ((xs ((x3 + 4)).toNat).toInt) s).bind fun q265 =>
                                  (gm_195 ((xs ((x3 + 1)).toNat).toInt) ((xs ((x3 + 2)).toNat).toInt) ((xs ((x3 + 3)).toNat).toInt) ((xs ((x3 + 4)).toNat).toInt) q265.2).bind fun q275 =>
                                  gm_236_1121 L xs (gm_236_18 L xs n) x3 q275.2) else none) else none) else none) else none) else (
                                  if ((Int32.ofInt ((xs (x3).toNat).toInt) &&& Int32.ofInt 31)).toInt = 14 then (
                                    if 0 ≤ (x3 + 1) ∧ (x3 + 1) < (L : Int) then (
                                    if 0 ≤ (x3 + 2) ∧ (x3 + 2) < (L : Int) then (
                                    if 0 ≤ (x3 + 3) ∧ (x3 + 3) < (L : Int) then (
                                    (gm_99 ((xs ((x3 + 1)).toNat).toInt) ((xs ((x3 + 2)).toNat).toInt) ((xs ((x3 + 3)).toNat).toInt) s).bind fun q243 =>
                                    (gm_185 ((xs ((x3 + 1)).toNat).toInt) ((xs ((x3 + 2)).toNat).toInt) ((xs ((x3 + 3)).toNat).toInt) q243.2).bind fun q251 =>
                                    gm_236_1121 L xs (gm_236_18 L xs n) x3 q251.2) else none) else none) else none) else (
                                    if ((Int32.ofInt ((xs (x3).toNat).toInt) &&& Int32.ofInt 31)).toInt = 15 then (
                                      if 0 ≤ (x3 + 1) ∧ (x3 + 1) < (L : Int) then (
                                      if 0 ≤ (x3 + 2) ∧ (x3 + 2) < (L : Int) then (
                                      if 0 ≤ (x3 + 3) ∧ (x3 + 3) < (L : Int) then (
                                      (gm_100 ((xs ((x3 + 1)).toNat).toInt) ((xs ((x3 + 2)).toNat).toInt) ((xs ((x3 + 3)).toNat).toInt) s).bind fun q224 =>
                                      (gm_196 ((xs ((x3 + 1)).toNat).toInt) ((xs ((x3 + 2)).toNat).toInt) ((xs ((x3 + 3)).toNat).toInt) q224.2).bind fun q232 =>
                                      gm_236_1121 L xs (gm_236_18 L xs n) x3 q232.2) else none) else none) else none) else (
                                      if ((Int32.ofInt ((xs (x3).toNat).toInt) &&& Int32.ofInt 31)).toInt = 16 then (
                                        if 0 ≤ (x3 + 1) ∧ (x3 + 1) < (L : Int) then (
                                        if 0 ≤ (x3 + 2) ∧ (x3 + 2) < (L : Int) then (
                                        if 0 ≤ (x3 + 3) ∧ (x3 + 3) < (L : Int) then (
                                        (gm_101 ((xs ((x3 + 1)).toNat).toInt) ((xs ((x3 + 2)).toNat).toInt) ((xs ((x3 + 3)).toNat).toInt) s).bind fun q205 =>
                                        (gm_188 ((xs ((x3 + 1)).toNat).toInt) ((xs ((x3 + 2)).toNat).toInt) ((xs ((x3 + 3)).toNat).toInt) q205.2).bind fun q213 =>
                                        gm_236_1121 L xs (gm_236_18 L xs n) x3 q213.2) else none) else none) else none) else (
                                        if ((Int32.ofInt ((xs (x3).toNat).toInt) &&& Int32.ofInt 31)).toInt = 17 then (
                                          if 0 ≤ (x3 + 1) ∧ (x3 + 1) < (L : Int) then (
                                          if 0 ≤ (x3 + 2) ∧ (x3 + 2) < (L : Int) then (
                                          (gm_102 ((xs ((x3 + 1)).toNat).toInt) ((xs ((x3 + 2)).toNat).toInt) s).bind fun q188 =>
                                          (gm_210 ((xs ((x3 + 1)).toNat).toInt) ((xs ((x3 + 2)).toNat).toInt) q188.2).bind fun q194 =>
                                          gm_236_1121 L xs (gm_236_18 L xs n) x3 q194.2) else none) else none) else (
                                          if ((Int32.ofInt ((xs (x3).toNat).toInt) &&& Int32.ofInt 31)).toInt = 18 then (
                                            if 0 ≤ (x3 + 1) ∧ (x3 + 1) < (L : Int) then (
                                            if 0 ≤ (x3 + 2) ∧ (x3 + 2) < (L : Int) then (
                                            (gm_103 ((xs ((x3 + 1)).toNat).toInt) ((xs ((x3 + 2)).toNat).toInt) s).bind fun q174 =>
                                            (gm_189 ((xs ((x3 + 1)).toNat).toInt) ((xs ((x3 + 2)).toNat).toInt) q174.2).bind fun q180 =>
                                            gm_236_1121 L xs (gm_236_18 L xs n) x3 q180.2) else none) else none) else (
                                            if ((Int32.ofInt ((xs (x3).toNat).toInt) &&& Int32.ofInt 31)).toInt = 19 then (
                                              if 0 ≤ (x3 + 1) ∧ (x3 + 1) < (L : Int) then (
                                              if 0 ≤ (x3 + 2) ∧ (x3 + 2) < (L : Int) then (
                                              (gm_104 ((xs ((x3 + 1)).toNat).toInt) ((xs ((x3 + 2)).toNat).toInt) s).bind fun q160 =>
                                              (gm_192 ((xs ((x3 + 1)).toNat).toInt) ((xs ((x3 + 2)).toNat).toInt) q160.2).bind fun q166 =>
                                              gm_236_1121 L xs (gm_236_18 L xs n) x3 q166.2) else none) else none) else (
                                              if ((Int32.ofInt ((xs (x3).toNat).toInt) &&& Int32.ofInt 31)).toInt = 20 then (
                                                if 0 ≤ (x3 + 1) ∧ (x3 + 1) < (L : Int) then (
                                                (gm_105 ((xs ((x3 + 1)).toNat).toInt) s).bind fun q148 =>
                                                (gm_193 ((xs ((x3 + 1)).toNat).toInt) q148.2).bind fun q152 =>
                                                gm_236_1121 L xs (gm_236_18 L xs n) x3 q152.2) else none) else (
                                                if ((Int32.ofInt ((xs (x3).toNat).toInt) &&& Int32.ofInt 31)).toInt = 21 then (
                                                  if 0 ≤ (x3 + 1) ∧ (x3 + 1) < (L : Int) then (
                                                  if 0 ≤ (x3 + 2) ∧ (x3 + 2) < (L : Int) then (
                                                  if 0 ≤ (x3 + 3) ∧ (x3 + 3) < (L : Int) then (
                                                  if 0 ≤ (x3 + 4) ∧ (x3 + 4) < (L : Int) then (
                                                  (gm_106 ((xs ((x3 + 1)).toNat).toInt) ((xs ((x3 + 2)).toNat).toInt) ((xs ((x3 + 3)).toNat).toInt) ((xs ((x3 + 4)).toNat).toInt) s).bind fun q133 =>
                                                  (gm_199 ((xs ((x3 + 1)).toNat).toInt) ((xs ((x3 + 2)).toNat).toInt) ((xs ((x3 + 3)).toNat).toInt) ((xs ((x3 + 4)).toNat).toInt) q133.2).bind fun q143 =>
                                                  gm_236_1121 L xs (gm_236_18 L xs n) x3 q143.2) else none) else none) else none) else none) else (
                                                  if ((Int32.ofInt ((xs (x3).toNat).toInt) &&& Int32.ofInt 31)).toInt = 22 then (
                                                    if 0 ≤ (x3 + 1) ∧ (x3 + 1) < (L : Int) then (
                                                    if 0 ≤ (x3 + 2) ∧ (x3 + 2) < (L : Int) then (
                                                    (gm_107 ((xs ((x3 + 1)).toNat).toInt) ((xs ((x3 + 2)).toNat).toInt) s).bind fun q113 =>
                                                    (gm_201 ((xs ((x3 + 1)).toNat).toInt) ((xs ((x3 + 2)).toNat).toInt) q113.2).bind fun q119 =>
                                                    gm_236_1121 L xs (gm_236_18 L xs n) x3 q119.2) else none) else none) else (
                                                    if ((Int32.ofInt ((xs (x3).toNat).toInt) &&& Int32.ofInt 31)).toInt = 23 then (
                                                      if 0 ≤ (x3 + 1) ∧ (x3 + 1) < (L : Int) then (
                                                      if 0 ≤ (x3 + 2) ∧ (x3 + 2) < (L : Int) then (
                                                      if 0 ≤ (x3 + 3) ∧ (x3 + 3) < (L : Int) then (
                                                      (gm_108 ((xs ((x3 + 1)).toNat).toInt) ((xs ((x3 + 2)).toNat).toInt) ((xs ((x3 + 3)).toNat).toInt) s).bind fun q97 =>
                                                      (gm_203 ((xs ((x3 + 1)).toNat).toInt) ((xs ((x3 + 2)).toNat).toInt) ((xs ((x3 + 3)).toNat).toInt) q97.2).bind fun q105 =>
                                                      gm_236_1121 L xs (gm_236_18 L xs n) x3 q105.2) else none) else none) else none) else (
                                                      if ((Int32.ofInt ((xs (x3).toNat).toInt) &&& Int32.ofInt 31)).toInt = 24 then (
                                                        if 0 ≤ (x3 + 1) ∧ (x3 + 1) < (L : Int) then (
                                                        (gm_109 ((xs ((x3 + 1)).toNat).toInt) s).bind fun q82 =>
                                                        (gm_204 ((xs ((x3 + 1)).toNat).toInt) q82.2).bind fun q86 =>
                                                        gm_236_1121 L xs (gm_236_18 L xs n) x3 q86.2) else none) else (
                                                        if ((Int32.ofInt ((xs (x3).toNat).toInt) &&& Int32.ofInt 31)).toInt = 25 then (
                                                          if 0 ≤ (x3 + 1) ∧ (x3 + 1) < (L : Int) then (
                                                          (gm_110 ((xs ((x3 + 1)).toNat).toInt) s).bind fun q73 =>
                                                          (gm_223 ((xs ((x3 + 1)).toNat).toInt) q73.2).bind fun q77 =>
                                                          gm_236_1121 L xs (gm_236_18 L xs n) x3 q77.2) else none) else (
                                                          if ((Int32.ofInt ((xs (x3).toNat).toInt) &&& Int32.ofInt 31)).toInt = 26 then (
                                                            if 0 ≤ (x3 + 1) ∧ (x3 + 1) < (L : Int) then (
                                                            (gm_111 ((xs ((x3 + 1)).toNat).toInt) s).bind fun q64 =>
                                                            (gm_226 ((xs ((x3 + 1)).toNat).toInt) q64.2).bind fun q68 =>
                                                            gm_236_1121 L xs (gm_236_18 L xs n) x3 q68.2) else none) else (
                                                            if ((Int32.ofInt ((xs (x3).toNat).toInt) &&& Int32.ofInt 31)).toInt = 27 then (
                                                              if 0 ≤ (x3 + 1) ∧ (x3 + 1) < (L : Int) then (
                                                              if 0 ≤ (x3 + 2) ∧ (x3 + 2) < (L : Int) then (
                                                              (gm_112 ((xs ((x3 + 1)).toNat).toInt) ((xs ((x3 + 2)).toNat).toInt) s).bind fun q53 =>
                                                              (gm_227 ((xs ((x3 + 1)).toNat).toInt) ((xs ((x3 + 2)).toNat).toInt) q53.2).bind fun q59 =>
                                                              gm_236_1121 L xs (gm_236_18 L xs n) x3 q59.2) else none) else none) else (
                                                              if ((Int32.ofInt ((xs (x3).toNat).toInt) &&& Int32.ofInt 31)).toInt = 28 then (
                                                                if 0 ≤ (x3 + 1) ∧ (x3 + 1) < (L : Int) then (
                                                                (gm_113 ((xs ((x3 + 1)).toNat).toInt) s).bind fun q41 =>
                                                                (gm_228 ((xs ((x3 + 1)).toNat).toInt) q41.2).bind fun q45 =>
                                                                gm_236_1121 L xs (gm_236_18 L xs n) x3 q45.2) else none) else (
                                                                gm_236_1121 L xs (gm_236_18 L xs n) x3 s)))))))))))))))))))))))))))))) else none) else none)) else none) else none
theorem gf_236_18 {L : Nat} {xs : Nat → Int32} (hL : L ≤ 100000) : ∀ (n : Nat) (x3 : Int) (yx3 : Int32) (e3 : yx3 = Int32.ofInt x3) (s : gx_S) (σ : fx_S) (es : σ = gx s) (q : Bool × gx_S), gm_236_18 L xs n x3 s = some q → fm_236_18 L xs n yx3 σ = some (q.1, gx q.2) := by
  intro n
  induction n with
  | zero =>
    intro x3 yx3 e3 s σ es q  h
    rw [gm_236_18] at h
    exact fx_no h
  | succ n ih =>
    intro x3 yx3 e3 s σ es q  h
    rw [gm_236_18] at h
    rw [fm_236_18]
    obtain ⟨z1, h⟩ := fx_gd h
    obtain ⟨z2, h⟩ := fx_gd h
    by_cases c3 : ((L : Int) - 6) < x3
    · rw [if_pos c3] at h
      refine gb_t ((gc_lt (ga_sub (gc_L L) kg_6) e3 z2 z1).mpr c3) ?_
      have h := Option.some.inj h
      subst h
      exact gretb es
    · rw [if_neg c3] at h
      refine gb_f (fun q => c3 ((gc_lt (ga_sub (gc_L L) kg_6) e3 z2 z1).mp q)) ?_
      obtain ⟨z6, h⟩ := fx_gd h
      refine gb_bind (gl_lds hL e3 z6) ?_
      obtain ⟨z36, h⟩ := fx_gd h
      by_cases c7 : ((Int32.ofInt ((xs (x3).toNat).toInt) &&& Int32.ofInt 31)).toInt = 0
      · rw [if_pos c7] at h
        refine gb_t ((gc_eq (ga_o2 (f := (fun a b => (a &&& b))) (gr ((xs (x3).toNat).toInt)) kg_31) kg_0 z36 (by decide)).mpr c7) ?_
        obtain ⟨z418, h⟩ := fx_gd h
        refine gb_bind (gl_lds hL (ga_add e3 kg_1) z418) ?_
        obtain ⟨z421, h⟩ := fx_gd h
        refine gb_bind (gl_lds hL (ga_add e3 kg_2) z421) ?_
        obtain ⟨z424, h⟩ := fx_gd h
        refine gb_bind (gl_lds hL (ga_add e3 kg_3) z424) ?_
        obtain ⟨z427, h⟩ := fx_gd h
        refine gb_bind (gl_lds hL (ga_add e3 kg_4) z427) ?_
        obtain ⟨z430, h⟩ := fx_gd h
        refine gb_bind (gl_lds hL (ga_add e3 kg_5) z430) ?_
        obtain ⟨q432, w431, h⟩ := fx_bd h
        refine gb_bind (gf_85 (gr ((xs ((x3 + 1)).toNat).toInt)) (gr ((xs ((x3 + 2)).toNat).toInt)) (gr ((xs ((x3 + 3)).toNat).toInt)) (gr ((xs ((x3 + 4)).toNat).toInt)) (gr ((xs ((x3 + 5)).toNat).toInt)) es w431) ?_
        refine gb_bind (gl_lds hL (ga_add e3 kg_1) z418) ?_
        refine gb_bind (gl_lds hL (ga_add e3 kg_2) z421) ?_
        refine gb_bind (gl_lds hL (ga_add e3 kg_3) z424) ?_
        refine gb_bind (gl_lds hL (ga_add e3 kg_4) z427) ?_
        refine gb_bind (gl_lds hL (ga_add e3 kg_5) z430) ?_
        obtain ⟨q444, w443, h⟩ := fx_bd h
        refine gb_bind (gf_134 (gr ((xs ((x3 + 1)).toNat).toInt)) (gr ((xs ((x3 + 2)).toNat).toInt)) (gr ((xs ((x3 + 3)).toNat).toInt)) (gr ((xs ((x3 + 4)).toNat).toInt)) (gr ((xs ((x3 + 5)).toNat).toInt)) (rfl : _ = gx q432.2) w443) ?_
        exact gf_236_1121 hL ih _ _ e3 _ _ (rfl : _ = gx q444.2) _ h
      · rw [if_neg c7] at h
        refine gb_f (fun q => c7 ((gc_eq (ga_o2 (f := (fun a b => (a &&& b))) (gr ((xs (x3).toNat).toInt)) kg_31) kg_0 z36 (by decide)).mp q)) ?_
        by_cases c8 : ((Int32.ofInt ((xs (x3).toNat).toInt) &&& Int32.ofInt 31)).toInt = 1
        · rw [if_pos c8] at h
          refine gb_t ((gc_eq (ga_o2 (f := (fun a b => (a &&& b))) (gr ((xs (x3).toNat).toInt)) kg_31) kg_1 z36 (by decide)).mpr c8) ?_
          obtain ⟨z409, h⟩ := fx_gd h
          refine gb_bind (gl_lds hL (ga_add e3 kg_1) z409) ?_
          obtain ⟨q411, w410, h⟩ := fx_bd h
          refine gb_bind (gf_86 (gr ((xs ((x3 + 1)).toNat).toInt)) es w410) ?_
          refine gb_bind (gl_lds hL (ga_add e3 kg_1) z409) ?_
          obtain ⟨q415, w414, h⟩ := fx_bd h
          refine gb_bind (gf_136 (gr ((xs ((x3 + 1)).toNat).toInt)) (rfl : _ = gx q411.2) w414) ?_
          exact gf_236_1121 hL ih _ _ e3 _ _ (rfl : _ = gx q415.2) _ h
        · rw [if_neg c8] at h
          refine gb_f (fun q => c8 ((gc_eq (ga_o2 (f := (fun a b => (a &&& b))) (gr ((xs (x3).toNat).toInt)) kg_31) kg_1 z36 (by decide)).mp q)) ?_
          by_cases c9 : ((Int32.ofInt ((xs (x3).toNat).toInt) &&& Int32.ofInt 31)).toInt = 2
          · rw [if_pos c9] at h
            refine gb_t ((gc_eq (ga_o2 (f := (fun a b => (a &&& b))) (gr ((xs (x3).toNat).toInt)) kg_31) kg_2 z36 (by decide)).mpr c9) ?_
            obtain ⟨z400, h⟩ := fx_gd h
            refine gb_bind (gl_lds hL (ga_add e3 kg_1) z400) ?_
            obtain ⟨q402, w401, h⟩ := fx_bd h
            refine gb_bind (gf_87 (gr ((xs ((x3 + 1)).toNat).toInt)) es w401) ?_
            refine gb_bind (gl_lds hL (ga_add e3 kg_1) z400) ?_
            obtain ⟨q406, w405, h⟩ := fx_bd h
            refine gb_bind (gf_145 (gr ((xs ((x3 + 1)).toNat).toInt)) (rfl : _ = gx q402.2) w405) ?_
            exact gf_236_1121 hL ih _ _ e3 _ _ (rfl : _ = gx q406.2) _ h
          · rw [if_neg c9] at h
            refine gb_f (fun q => c9 ((gc_eq (ga_o2 (f := (fun a b => (a &&& b))) (gr ((xs (x3).toNat).toInt)) kg_31) kg_2 z36 (by decide)).mp q)) ?_
            by_cases c10 : ((Int32.ofInt ((xs (x3).toNat).toInt) &&& Int32.ofInt 31)).toInt = 3
            · rw [if_pos c10] at h
              refine gb_t ((gc_eq (ga_o2 (f := (fun a b => (a &&& b))) (gr ((xs (x3).toNat).toInt)) kg_31) kg_3 z36 (by decide)).mpr c10) ?_
              obtain ⟨z391, h⟩ := fx_gd h
              refine gb_bind (gl_lds hL (ga_add e3 kg_1) z391) ?_
              obtain ⟨q393, w392, h⟩ := fx_bd h
              refine gb_bind (gf_88 (gr ((xs ((x3 + 1)).toNat).toInt)) es w392) ?_
              refine gb_bind (gl_lds hL (ga_add e3 kg_1) z391) ?_
              obtain ⟨q397, w396, h⟩ := fx_bd h
              refine gb_bind (gf_149 (gr ((xs ((x3 + 1)).toNat).toInt)) (rfl : _ = gx q393.2) w396) ?_
              exact gf_236_1121 hL ih _ _ e3 _ _ (rfl : _ = gx q397.2) _ h
            · rw [if_neg c10] at h
              refine gb_f (fun q => c10 ((gc_eq (ga_o2 (f := (fun a b => (a &&& b))) (gr ((xs (x3).toNat).toInt)) kg_31) kg_3 z36 (by decide)).mp q)) ?_
              by_cases c11 : ((Int32.ofInt ((xs (x3).toNat).toInt) &&& Int32.ofInt 31)).toInt = 4
              · rw [if_pos c11] at h
                refine gb_t ((gc_eq (ga_o2 (f := (fun a b => (a &&& b))) (gr ((xs (x3).toNat).toInt)) kg_31) kg_4 z36 (by decide)).mpr c11) ?_
                obtain ⟨z372, h⟩ := fx_gd h
                refine gb_bind (gl_lds hL (ga_add e3 kg_1) z372) ?_
                obtain ⟨z375, h⟩ := fx_gd h
                refine gb_bind (gl_lds hL (ga_add e3 kg_2) z375) ?_
                obtain ⟨z378, h⟩ := fx_gd h
                refine gb_bind (gl_lds hL (ga_add e3 kg_3) z378) ?_
                obtain ⟨q380, w379, h⟩ := fx_bd h
                refine gb_bind (gf_89 (gr ((xs ((x3 + 1)).toNat).toInt)) (gr ((xs ((x3 + 2)).toNat).toInt)) (gr ((xs ((x3 + 3)).toNat).toInt)) es w379) ?_
                refine gb_bind (gl_lds hL (ga_add e3 kg_1) z372) ?_
                refine gb_bind (gl_lds hL (ga_add e3 kg_2) z375) ?_
                refine gb_bind (gl_lds hL (ga_add e3 kg_3) z378) ?_
                obtain ⟨q388, w387, h⟩ := fx_bd h
                refine gb_bind (gf_214 (gr ((xs ((x3 + 1)).toNat).toInt)) (gr ((xs ((x3 + 2)).toNat).toInt)) (gr ((xs ((x3 + 3)).toNat).toInt)) (rfl : _ = gx q380.2) w387) ?_
                exact gf_236_1121 hL ih _ _ e3 _ _ (rfl : _ = gx q388.2) _ h
              · rw [if_neg c11] at h
                refine gb_f (fun q => c11 ((gc_eq (ga_o2 (f := (fun a b => (a &&& b))) (gr ((xs (x3).toNat).toInt)) kg_31) kg_4 z36 (by decide)).mp q)) ?_
                by_cases c12 : ((Int32.ofInt ((xs (x3).toNat).toInt) &&& Int32.ofInt 31)).toInt = 5
                · rw [if_pos c12] at h
                  refine gb_t ((gc_eq (ga_o2 (f := (fun a b => (a &&& b))) (gr ((xs (x3).toNat).toInt)) kg_31) kg_5 z36 (by decide)).mpr c12) ?_
                  obtain ⟨z358, h⟩ := fx_gd h
                  refine gb_bind (gl_lds hL (ga_add e3 kg_1) z358) ?_
                  obtain ⟨z361, h⟩ := fx_gd h
                  refine gb_bind (gl_lds hL (ga_add e3 kg_2) z361) ?_
                  obtain ⟨q363, w362, h⟩ := fx_bd h
                  refine gb_bind (gf_90 (gr ((xs ((x3 + 1)).toNat).toInt)) (gr ((xs ((x3 + 2)).toNat).toInt)) es w362) ?_
                  refine gb_bind (gl_lds hL (ga_add e3 kg_1) z358) ?_
                  refine gb_bind (gl_lds hL (ga_add e3 kg_2) z361) ?_
                  obtain ⟨q369, w368, h⟩ := fx_bd h
                  refine gb_bind (gf_215 (gr ((xs ((x3 + 1)).toNat).toInt)) (gr ((xs ((x3 + 2)).toNat).toInt)) (rfl : _ = gx q363.2) w368) ?_
                  exact gf_236_1121 hL ih _ _ e3 _ _ (rfl : _ = gx q369.2) _ h
                · rw [if_neg c12] at h
                  refine gb_f (fun q => c12 ((gc_eq (ga_o2 (f := (fun a b => (a &&& b))) (gr ((xs (x3).toNat).toInt)) kg_31) kg_5 z36 (by decide)).mp q)) ?_
                  by_cases c13 : ((Int32.ofInt ((xs (x3).toNat).toInt) &&& Int32.ofInt 31)).toInt = 6
                  · rw [if_pos c13] at h
                    refine gb_t ((gc_eq (ga_o2 (f := (fun a b => (a &&& b))) (gr ((xs (x3).toNat).toInt)) kg_31) kg_6 z36 (by decide)).mpr c13) ?_
                    obtain ⟨z344, h⟩ := fx_gd h
                    refine gb_bind (gl_lds hL (ga_add e3 kg_1) z344) ?_
                    obtain ⟨z347, h⟩ := fx_gd h
                    refine gb_bind (gl_lds hL (ga_add e3 kg_2) z347) ?_
                    obtain ⟨q349, w348, h⟩ := fx_bd h
                    refine gb_bind (gf_91 (gr ((xs ((x3 + 1)).toNat).toInt)) (gr ((xs ((x3 + 2)).toNat).toInt)) es w348) ?_
                    refine gb_bind (gl_lds hL (ga_add e3 kg_1) z344) ?_
                    refine gb_bind (gl_lds hL (ga_add e3 kg_2) z347) ?_
                    obtain ⟨q355, w354, h⟩ := fx_bd h
                    refine gb_bind (gf_216 (gr ((xs ((x3 + 1)).toNat).toInt)) (gr ((xs ((x3 + 2)).toNat).toInt)) (rfl : _ = gx q349.2) w354) ?_
                    exact gf_236_1121 hL ih _ _ e3 _ _ (rfl : _ = gx q355.2) _ h
                  · rw [if_neg c13] at h
                    refine gb_f (fun q => c13 ((gc_eq (ga_o2 (f := (fun a b => (a &&& b))) (gr ((xs (x3).toNat).toInt)) kg_31) kg_6 z36 (by decide)).mp q)) ?_
                    by_cases c14 : ((Int32.ofInt ((xs (x3).toNat).toInt) &&& Int32.ofInt 31)).toInt = 7
                    · rw [if_pos c14] at h
                      refine gb_t ((gc_eq (ga_o2 (f := (fun a b => (a &&& b))) (gr ((xs (x3).toNat).toInt)) kg_31) kg_7 z36 (by decide)).mpr c14) ?_
                      obtain ⟨z335, h⟩ := fx_gd h
                      refine gb_bind (gl_lds hL (ga_add e3 kg_1) z335) ?_
                      obtain ⟨q337, w336, h⟩ := fx_bd h
                      refine gb_bind (gf_92 (gr ((xs ((x3 + 1)).toNat).toInt)) es w336) ?_
                      refine gb_bind (gl_lds hL (ga_add e3 kg_1) z335) ?_
                      obtain ⟨q341, w340, h⟩ := fx_bd h
                      refine gb_bind (gf_212 (gr ((xs ((x3 + 1)).toNat).toInt)) (rfl : _ = gx q337.2) w340) ?_
                      exact gf_236_1121 hL ih _ _ e3 _ _ (rfl : _ = gx q341.2) _ h
                    · rw [if_neg c14] at h
                      refine gb_f (fun q => c14 ((gc_eq (ga_o2 (f := (fun a b => (a &&& b))) (gr ((xs (x3).toNat).toInt)) kg_31) kg_7 z36 (by decide)).mp q)) ?_
                      by_cases c15 : ((Int32.ofInt ((xs (x3).toNat).toInt) &&& Int32.ofInt 31)).toInt = 8
                      · rw [if_pos c15] at h
                        refine gb_t ((gc_eq (ga_o2 (f := (fun a b => (a &&& b))) (gr ((xs (x3).toNat).toInt)) kg_31) kg_8 z36 (by decide)).mpr c15) ?_
                        obtain ⟨q330, w329, h⟩ := fx_bd h
                        refine gb_bind (gf_93 es w329) ?_
                        obtain ⟨q332, w331, h⟩ := fx_bd h
                        refine gb_bind (gf_217 (rfl : _ = gx q330.2) w331) ?_
                        exact gf_236_1121 hL ih _ _ e3 _ _ (rfl : _ = gx q332.2) _ h
                      · rw [if_neg c15] at h
                        refine gb_f (fun q => c15 ((gc_eq (ga_o2 (f := (fun a b => (a &&& b))) (gr ((xs (x3).toNat).toInt)) kg_31) kg_8 z36 (by decide)).mp q)) ?_
                        by_cases c16 : ((Int32.ofInt ((xs (x3).toNat).toInt) &&& Int32.ofInt 31)).toInt = 9
                        · rw [if_pos c16] at h
                          refine gb_t ((gc_eq (ga_o2 (f := (fun a b => (a &&& b))) (gr ((xs (x3).toNat).toInt)) kg_31) kg_9 z36 (by decide)).mpr c16) ?_
                          obtain ⟨q326, w325, h⟩ := fx_bd h
                          refine gb_bind (gf_94 es w325) ?_
                          obtain ⟨q328, w327, h⟩ := fx_bd h
                          refine gb_bind (gf_133 (rfl : _ = gx q326.2) w327) ?_
                          exact gf_236_1121 hL ih _ _ e3 _ _ (rfl : _ = gx q328.2) _ h
                        · rw [if_neg c16] at h
                          refine gb_f (fun q => c16 ((gc_eq (ga_o2 (f := (fun a b => (a &&& b))) (gr ((xs (x3).toNat).toInt)) kg_31) kg_9 z36 (by decide)).mp q)) ?_
                          by_cases c17 : ((Int32.ofInt ((xs (x3).toNat).toInt) &&& Int32.ofInt 31)).toInt = 10
                          · rw [if_pos c17] at h
                            refine gb_t ((gc_eq (ga_o2 (f := (fun a b => (a &&& b))) (gr ((xs (x3).toNat).toInt)) kg_31) kg_10 z36 (by decide)).mpr c17) ?_
                            obtain ⟨z308, h⟩ := fx_gd h
                            refine gb_bind (gl_lds hL (ga_add e3 kg_1) z308) ?_
                            obtain ⟨z311, h⟩ := fx_gd h
                            refine gb_bind (gl_lds hL (ga_add e3 kg_2) z311) ?_
                            obtain ⟨z314, h⟩ := fx_gd h
                            refine gb_bind (gl_lds hL (ga_add e3 kg_3) z314) ?_
                            obtain ⟨q316, w315, h⟩ := fx_bd h
                            refine gb_bind (gf_95 (gr ((xs ((x3 + 1)).toNat).toInt)) (gr ((xs ((x3 + 2)).toNat).toInt)) (gr ((xs ((x3 + 3)).toNat).toInt)) es w315) ?_
                            refine gb_bind (gl_lds hL (ga_add e3 kg_1) z308) ?_
                            refine gb_bind (gl_lds hL (ga_add e3 kg_2) z311) ?_
                            refine gb_bind (gl_lds hL (ga_add e3 kg_3) z314) ?_
                            obtain ⟨q324, w323, h⟩ := fx_bd h
                            refine gb_bind (gf_218 (gr ((xs ((x3 + 1)).toNat).toInt)) (gr ((xs ((x3 + 2)).toNat).toInt)) (gr ((xs ((x3 + 3)).toNat).toInt)) (rfl : _ = gx q316.2) w323) ?_
                            exact gf_236_1121 hL ih _ _ e3 _ _ (rfl : _ = gx q324.2) _ h
                          · rw [if_neg c17] at h
                            refine gb_f (fun q => c17 ((gc_eq (ga_o2 (f := (fun a b => (a &&& b))) (gr ((xs (x3).toNat).toInt)) kg_31) kg_10 z36 (by decide)).mp q)) ?_
                            by_cases c18 : ((Int32.ofInt ((xs (x3).toNat).toInt) &&& Int32.ofInt 31)).toInt = 11
                            · rw [if_pos c18] at h
                              refine gb_t ((gc_eq (ga_o2 (f := (fun a b => (a &&& b))) (gr ((xs (x3).toNat).toInt)) kg_31) kg_11 z36 (by decide)).mpr c18) ?_
                              obtain ⟨z292, h⟩ := fx_gd h
                              refine gb_bind (gl_lds hL (ga_add e3 kg_1) z292) ?_
                              obtain ⟨z295, h⟩ := fx_gd h
                              refine gb_bind (gl_lds hL (ga_add e3 kg_2) z295) ?_
                              obtain ⟨q297, w296, h⟩ := fx_bd h
                              refine gb_bind (gf_96 (gr ((xs ((x3 + 1)).toNat).toInt)) (gr ((xs ((x3 + 2)).toNat).toInt)) es w296) ?_
                              refine gb_bind (gl_lds hL (ga_add e3 kg_1) z292) ?_
                              refine gb_bind (gl_lds hL (ga_add e3 kg_2) z295) ?_
                              obtain ⟨q303, w302, h⟩ := fx_bd h
                              refine gb_bind (gf_220 (gr ((xs ((x3 + 1)).toNat).toInt)) (gr ((xs ((x3 + 2)).toNat).toInt)) (rfl : _ = gx q297.2) w302) ?_
                              obtain ⟨z304, h⟩ := fx_gd h
                              refine gb_t (congrArg Int32.ofInt z304) ?_
                              exact gf_236_1121 hL ih _ _ e3 _ _ (rfl : _ = gx q303.2) _ h
                            · rw [if_neg c18] at h
                              refine gb_f (fun q => c18 ((gc_eq (ga_o2 (f := (fun a b => (a &&& b))) (gr ((xs (x3).toNat).toInt)) kg_31) kg_11 z36 (by decide)).mp q)) ?_
                              by_cases c19 : ((Int32.ofInt ((xs (x3).toNat).toInt) &&& Int32.ofInt 31)).toInt = 12
                              · rw [if_pos c19] at h
                                refine gb_t ((gc_eq (ga_o2 (f := (fun a b => (a &&& b))) (gr ((xs (x3).toNat).toInt)) kg_31) kg_12 z36 (by decide)).mpr c19) ?_
                                obtain ⟨z278, h⟩ := fx_gd h
                                refine gb_bind (gl_lds hL (ga_add e3 kg_1) z278) ?_
                                obtain ⟨z281, h⟩ := fx_gd h
                                refine gb_bind (gl_lds hL (ga_add e3 kg_2) z281) ?_
                                obtain ⟨q283, w282, h⟩ := fx_bd h
                                refine gb_bind (gf_97 (gr ((xs ((x3 + 1)).toNat).toInt)) (gr ((xs ((x3 + 2)).toNat).toInt)) es w282) ?_
                                refine gb_bind (gl_lds hL (ga_add e3 kg_1) z278) ?_
                                refine gb_bind (gl_lds hL (ga_add e3 kg_2) z281) ?_
                                obtain ⟨q289, w288, h⟩ := fx_bd h
                                refine gb_bind (gf_179 (gr ((xs ((x3 + 1)).toNat).toInt)) (gr ((xs ((x3 + 2)).toNat).toInt)) (rfl : _ = gx q283.2) w288) ?_
                                exact gf_236_1121 hL ih _ _ e3 _ _ (rfl : _ = gx q289.2) _ h
                              · rw [if_neg c19] at h
                                refine gb_f (fun q => c19 ((gc_eq (ga_o2 (f := (fun a b => (a &&& b))) (gr ((xs (x3).toNat).toInt)) kg_31) kg_12 z36 (by decide)).mp q)) ?_
                                by_cases c20 : ((Int32.ofInt ((xs (x3).toNat).toInt) &&& Int32.ofInt 31)).toInt = 13
                                · rw [if_pos c20] at h
                                  refine gb_t ((gc_eq (ga_o2 (f := (fun a b => (a &&& b))) (gr ((xs (x3).toNat).toInt)) kg_31) kg_13 z36 (by decide)).mpr c20) ?_
                                  obtain ⟨z254, h⟩ := fx_gd h
                                  refine gb_bind (gl_lds hL (ga_add e3 kg_1) z254) ?_
                                  obtain ⟨z257, h⟩ := fx_gd h
                                  refine gb_bind (gl_lds hL (ga_add e3 kg_2) z257) ?_
                                  obtain ⟨z260, h⟩ := fx_gd h
                                  refine gb_bind (gl_lds hL (ga_add e3 kg_3) z260) ?_
                                  obtain ⟨z263, h⟩ := fx_gd h
                                  refine gb_bind (gl_lds hL (ga_add e3 kg_4) z263) ?_
                                  obtain ⟨q265, w264, h⟩ := fx_bd h
                                  refine gb_bind (gf_98 (gr ((xs ((x3 + 1)).toNat).toInt)) (gr ((xs ((x3 + 2)).toNat).toInt)) (gr ((xs ((x3 + 3)).toNat).toInt)) (gr ((xs ((x3 + 4)).toNat).toInt)) es w264) ?_
                                  refine gb_bind (gl_lds hL (ga_add e3 kg_1) z254) ?_
                                  refine gb_bind (gl_lds hL (ga_add e3 kg_2) z257) ?_
                                  refine gb_bind (gl_lds hL (ga_add e3 kg_3) z260) ?_
                                  refine gb_bind (gl_lds hL (ga_add e3 kg_4) z263) ?_
                                  obtain ⟨q275, w274, h⟩ := fx_bd h
                                  refine gb_bind (gf_195 (gr ((xs ((x3 + 1)).toNat).toInt)) (gr ((xs ((x3 + 2)).toNat).toInt)) (gr ((xs ((x3 + 3)).toNat).toInt)) (gr ((xs ((x3 + 4)).toNat).toInt)) (rfl : _ = gx q265.2) w274) ?_
                                  exact gf_236_1121 hL ih _ _ e3 _ _ (rfl : _ = gx q275.2) _ h
                                · rw [if_neg c20] at h
                                  refine gb_f (fun q => c20 ((gc_eq (ga_o2 (f := (fun a b => (a &&& b))) (gr ((xs (x3).toNat).toInt)) kg_31) kg_13 z36 (by decide)).mp q)) ?_
                                  by_cases c21 : ((Int32.ofInt ((xs (x3).toNat).toInt) &&& Int32.ofInt 31)).toInt = 14
                                  · rw [if_pos c21] at h
                                    refine gb_t ((gc_eq (ga_o2 (f := (fun a b => (a &&& b))) (gr ((xs (x3).toNat).toInt)) kg_31) kg_14 z36 (by decide)).mpr c21) ?_
                                    obtain ⟨z235, h⟩ := fx_gd h
                                    refine gb_bind (gl_lds hL (ga_add e3 kg_1) z235) ?_
                                    obtain ⟨z238, h⟩ := fx_gd h
                                    refine gb_bind (gl_lds hL (ga_add e3 kg_2) z238) ?_
                                    obtain ⟨z241, h⟩ := fx_gd h
                                    refine gb_bind (gl_lds hL (ga_add e3 kg_3) z241) ?_
                                    obtain ⟨q243, w242, h⟩ := fx_bd h
                                    refine gb_bind (gf_99 (gr ((xs ((x3 + 1)).toNat).toInt)) (gr ((xs ((x3 + 2)).toNat).toInt)) (gr ((xs ((x3 + 3)).toNat).toInt)) es w242) ?_
                                    refine gb_bind (gl_lds hL (ga_add e3 kg_1) z235) ?_
                                    refine gb_bind (gl_lds hL (ga_add e3 kg_2) z238) ?_
                                    refine gb_bind (gl_lds hL (ga_add e3 kg_3) z241) ?_
                                    obtain ⟨q251, w250, h⟩ := fx_bd h
                                    refine gb_bind (gf_185 (gr ((xs ((x3 + 1)).toNat).toInt)) (gr ((xs ((x3 + 2)).toNat).toInt)) (gr ((xs ((x3 + 3)).toNat).toInt)) (rfl : _ = gx q243.2) w250) ?_
                                    exact gf_236_1121 hL ih _ _ e3 _ _ (rfl : _ = gx q251.2) _ h
                                  · rw [if_neg c21] at h
                                    refine gb_f (fun q => c21 ((gc_eq (ga_o2 (f := (fun a b => (a &&& b))) (gr ((xs (x3).toNat).toInt)) kg_31) kg_14 z36 (by decide)).mp q)) ?_
                                    by_cases c22 : ((Int32.ofInt ((xs (x3).toNat).toInt) &&& Int32.ofInt 31)).toInt = 15
                                    · rw [if_pos c22] at h
                                      refine gb_t ((gc_eq (ga_o2 (f := (fun a b => (a &&& b))) (gr ((xs (x3).toNat).toInt)) kg_31) kg_15 z36 (by decide)).mpr c22) ?_
                                      obtain ⟨z216, h⟩ := fx_gd h
                                      refine gb_bind (gl_lds hL (ga_add e3 kg_1) z216) ?_
                                      obtain ⟨z219, h⟩ := fx_gd h
                                      refine gb_bind (gl_lds hL (ga_add e3 kg_2) z219) ?_
                                      obtain ⟨z222, h⟩ := fx_gd h
                                      refine gb_bind (gl_lds hL (ga_add e3 kg_3) z222) ?_
                                      obtain ⟨q224, w223, h⟩ := fx_bd h
                                      refine gb_bind (gf_100 (gr ((xs ((x3 + 1)).toNat).toInt)) (gr ((xs ((x3 + 2)).toNat).toInt)) (gr ((xs ((x3 + 3)).toNat).toInt)) es w223) ?_
                                      refine gb_bind (gl_lds hL (ga_add e3 kg_1) z216) ?_
                                      refine gb_bind (gl_lds hL (ga_add e3 kg_2) z219) ?_
                                      refine gb_bind (gl_lds hL (ga_add e3 kg_3) z222) ?_
                                      obtain ⟨q232, w231, h⟩ := fx_bd h
                                      refine gb_bind (gf_196 (gr ((xs ((x3 + 1)).toNat).toInt)) (gr ((xs ((x3 + 2)).toNat).toInt)) (gr ((xs ((x3 + 3)).toNat).toInt)) (rfl : _ = gx q224.2) w231) ?_
                                      exact gf_236_1121 hL ih _ _ e3 _ _ (rfl : _ = gx q232.2) _ h
                                    · rw [if_neg c22] at h
                                      refine gb_f (fun q => c22 ((gc_eq (ga_o2 (f := (fun a b => (a &&& b))) (gr ((xs (x3).toNat).toInt)) kg_31) kg_15 z36 (by decide)).mp q)) ?_
                                      by_cases c23 : ((Int32.ofInt ((xs (x3).toNat).toInt) &&& Int32.ofInt 31)).toInt = 16
                                      · rw [if_pos c23] at h
                                        refine gb_t ((gc_eq (ga_o2 (f := (fun a b => (a &&& b))) (gr ((xs (x3).toNat).toInt)) kg_31) kg_16 z36 (by decide)).mpr c23) ?_
                                        obtain ⟨z197, h⟩ := fx_gd h
                                        refine gb_bind (gl_lds hL (ga_add e3 kg_1) z197) ?_
                                        obtain ⟨z200, h⟩ := fx_gd h
                                        refine gb_bind (gl_lds hL (ga_add e3 kg_2) z200) ?_
                                        obtain ⟨z203, h⟩ := fx_gd h
                                        refine gb_bind (gl_lds hL (ga_add e3 kg_3) z203) ?_
                                        obtain ⟨q205, w204, h⟩ := fx_bd h
                                        refine gb_bind (gf_101 (gr ((xs ((x3 + 1)).toNat).toInt)) (gr ((xs ((x3 + 2)).toNat).toInt)) (gr ((xs ((x3 + 3)).toNat).toInt)) es w204) ?_
                                        refine gb_bind (gl_lds hL (ga_add e3 kg_1) z197) ?_
                                        refine gb_bind (gl_lds hL (ga_add e3 kg_2) z200) ?_
                                        refine gb_bind (gl_lds hL (ga_add e3 kg_3) z203) ?_
                                        obtain ⟨q213, w212, h⟩ := fx_bd h
                                        refine gb_bind (gf_188 (gr ((xs ((x3 + 1)).toNat).toInt)) (gr ((xs ((x3 + 2)).toNat).toInt)) (gr ((xs ((x3 + 3)).toNat).toInt)) (rfl : _ = gx q205.2) w212) ?_
                                        exact gf_236_1121 hL ih _ _ e3 _ _ (rfl : _ = gx q213.2) _ h
                                      · rw [if_neg c23] at h
                                        refine gb_f (fun q => c23 ((gc_eq (ga_o2 (f := (fun a b => (a &&& b))) (gr ((xs (x3).toNat).toInt)) kg_31) kg_16 z36 (by decide)).mp q)) ?_
                                        by_cases c24 : ((Int32.ofInt ((xs (x3).toNat).toInt) &&& Int32.ofInt 31)).toInt = 17
                                        · rw [if_pos c24] at h
                                          refine gb_t ((gc_eq (ga_o2 (f := (fun a b => (a &&& b))) (gr ((xs (x3).toNat).toInt)) kg_31) kg_17 z36 (by decide)).mpr c24) ?_
                                          obtain ⟨z183, h⟩ := fx_gd h
                                          refine gb_bind (gl_lds hL (ga_add e3 kg_1) z183) ?_
                                          obtain ⟨z186, h⟩ := fx_gd h
                                          refine gb_bind (gl_lds hL (ga_add e3 kg_2) z186) ?_
                                          obtain ⟨q188, w187, h⟩ := fx_bd h
                                          refine gb_bind (gf_102 (gr ((xs ((x3 + 1)).toNat).toInt)) (gr ((xs ((x3 + 2)).toNat).toInt)) es w187) ?_
                                          refine gb_bind (gl_lds hL (ga_add e3 kg_1) z183) ?_
                                          refine gb_bind (gl_lds hL (ga_add e3 kg_2) z186) ?_
                                          obtain ⟨q194, w193, h⟩ := fx_bd h
                                          refine gb_bind (gf_210 (gr ((xs ((x3 + 1)).toNat).toInt)) (gr ((xs ((x3 + 2)).toNat).toInt)) (rfl : _ = gx q188.2) w193) ?_
                                          exact gf_236_1121 hL ih _ _ e3 _ _ (rfl : _ = gx q194.2) _ h
                                        · rw [if_neg c24] at h
                                          refine gb_f (fun q => c24 ((gc_eq (ga_o2 (f := (fun a b => (a &&& b))) (gr ((xs (x3).toNat).toInt)) kg_31) kg_17 z36 (by decide)).mp q)) ?_
                                          by_cases c25 : ((Int32.ofInt ((xs (x3).toNat).toInt) &&& Int32.ofInt 31)).toInt = 18
                                          · rw [if_pos c25] at h
                                            refine gb_t ((gc_eq (ga_o2 (f := (fun a b => (a &&& b))) (gr ((xs (x3).toNat).toInt)) kg_31) kg_18 z36 (by decide)).mpr c25) ?_
                                            obtain ⟨z169, h⟩ := fx_gd h
                                            refine gb_bind (gl_lds hL (ga_add e3 kg_1) z169) ?_
                                            obtain ⟨z172, h⟩ := fx_gd h
                                            refine gb_bind (gl_lds hL (ga_add e3 kg_2) z172) ?_
                                            obtain ⟨q174, w173, h⟩ := fx_bd h
                                            refine gb_bind (gf_103 (gr ((xs ((x3 + 1)).toNat).toInt)) (gr ((xs ((x3 + 2)).toNat).toInt)) es w173) ?_
                                            refine gb_bind (gl_lds hL (ga_add e3 kg_1) z169) ?_
                                            refine gb_bind (gl_lds hL (ga_add e3 kg_2) z172) ?_
                                            obtain ⟨q180, w179, h⟩ := fx_bd h
                                            refine gb_bind (gf_189 (gr ((xs ((x3 + 1)).toNat).toInt)) (gr ((xs ((x3 + 2)).toNat).toInt)) (rfl : _ = gx q174.2) w179) ?_
                                            exact gf_236_1121 hL ih _ _ e3 _ _ (rfl : _ = gx q180.2) _ h
                                          · rw [if_neg c25] at h
                                            refine gb_f (fun q => c25 ((gc_eq (ga_o2 (f := (fun a b => (a &&& b))) (gr ((xs (x3).toNat).toInt)) kg_31) kg_18 z36 (by decide)).mp q)) ?_
                                            by_cases c26 : ((Int32.ofInt ((xs (x3).toNat).toInt) &&& Int32.ofInt 31)).toInt = 19
                                            · rw [if_pos c26] at h
                                              refine gb_t ((gc_eq (ga_o2 (f := (fun a b => (a &&& b))) (gr ((xs (x3).toNat).toInt)) kg_31) kg_19 z36 (by decide)).mpr c26) ?_
                                              obtain ⟨z155, h⟩ := fx_gd h
                                              refine gb_bind (gl_lds hL (ga_add e3 kg_1) z155) ?_
                                              obtain ⟨z158, h⟩ := fx_gd h
                                              refine gb_bind (gl_lds hL (ga_add e3 kg_2) z158) ?_
                                              obtain ⟨q160, w159, h⟩ := fx_bd h
                                              refine gb_bind (gf_104 (gr ((xs ((x3 + 1)).toNat).toInt)) (gr ((xs ((x3 + 2)).toNat).toInt)) es w159) ?_
                                              refine gb_bind (gl_lds hL (ga_add e3 kg_1) z155) ?_
                                              refine gb_bind (gl_lds hL (ga_add e3 kg_2) z158) ?_
                                              obtain ⟨q166, w165, h⟩ := fx_bd h
                                              refine gb_bind (gf_192 (gr ((xs ((x3 + 1)).toNat).toInt)) (gr ((xs ((x3 + 2)).toNat).toInt)) (rfl : _ = gx q160.2) w165) ?_
                                              exact gf_236_1121 hL ih _ _ e3 _ _ (rfl : _ = gx q166.2) _ h
                                            · rw [if_neg c26] at h
                                              refine gb_f (fun q => c26 ((gc_eq (ga_o2 (f := (fun a b => (a &&& b))) (gr ((xs (x3).toNat).toInt)) kg_31) kg_19 z36 (by decide)).mp q)) ?_
                                              by_cases c27 : ((Int32.ofInt ((xs (x3).toNat).toInt) &&& Int32.ofInt 31)).toInt = 20
                                              · rw [if_pos c27] at h
                                                refine gb_t ((gc_eq (ga_o2 (f := (fun a b => (a &&& b))) (gr ((xs (x3).toNat).toInt)) kg_31) kg_20 z36 (by decide)).mpr c27) ?_
                                                obtain ⟨z146, h⟩ := fx_gd h
                                                refine gb_bind (gl_lds hL (ga_add e3 kg_1) z146) ?_
                                                obtain ⟨q148, w147, h⟩ := fx_bd h
                                                refine gb_bind (gf_105 (gr ((xs ((x3 + 1)).toNat).toInt)) es w147) ?_
                                                refine gb_bind (gl_lds hL (ga_add e3 kg_1) z146) ?_
                                                obtain ⟨q152, w151, h⟩ := fx_bd h
                                                refine gb_bind (gf_193 (gr ((xs ((x3 + 1)).toNat).toInt)) (rfl : _ = gx q148.2) w151) ?_
                                                exact gf_236_1121 hL ih _ _ e3 _ _ (rfl : _ = gx q152.2) _ h
                                              · rw [if_neg c27] at h
                                                refine gb_f (fun q => c27 ((gc_eq (ga_o2 (f := (fun a b => (a &&& b))) (gr ((xs (x3).toNat).toInt)) kg_31) kg_20 z36 (by decide)).mp q)) ?_
                                                by_cases c28 : ((Int32.ofInt ((xs (x3).toNat).toInt) &&& Int32.ofInt 31)).toInt = 21
                                                · rw [if_pos c28] at h
                                                  refine gb_t ((gc_eq (ga_o2 (f := (fun a b => (a &&& b))) (gr ((xs (x3).toNat).toInt)) kg_31) kg_21 z36 (by decide)).mpr c28) ?_
                                                  obtain ⟨z122, h⟩ := fx_gd h
                                                  refine gb_bind (gl_lds hL (ga_add e3 kg_1) z122) ?_
                                                  obtain ⟨z125, h⟩ := fx_gd h
                                                  refine gb_bind (gl_lds hL (ga_add e3 kg_2) z125) ?_
                                                  obtain ⟨z128, h⟩ := fx_gd h
                                                  refine gb_bind (gl_lds hL (ga_add e3 kg_3) z128) ?_
                                                  obtain ⟨z131, h⟩ := fx_gd h
                                                  refine gb_bind (gl_lds hL (ga_add e3 kg_4) z131) ?_
                                                  obtain ⟨q133, w132, h⟩ := fx_bd h
                                                  refine gb_bind (gf_106 (gr ((xs ((x3 + 1)).toNat).toInt)) (gr ((xs ((x3 + 2)).toNat).toInt)) (gr ((xs ((x3 + 3)).toNat).toInt)) (gr ((xs ((x3 + 4)).toNat).toInt)) es w132) ?_
                                                  refine gb_bind (gl_lds hL (ga_add e3 kg_1) z122) ?_
                                                  refine gb_bind (gl_lds hL (ga_add e3 kg_2) z125) ?_
                                                  refine gb_bind (gl_lds hL (ga_add e3 kg_3) z128) ?_
                                                  refine gb_bind (gl_lds hL (ga_add e3 kg_4) z131) ?_
                                                  obtain ⟨q143, w142, h⟩ := fx_bd h
                                                  refine gb_bind (gf_199 (gr ((xs ((x3 + 1)).toNat).toInt)) (gr ((xs ((x3 + 2)).toNat).toInt)) (gr ((xs ((x3 + 3)).toNat).toInt)) (gr ((xs ((x3 + 4)).toNat).toInt)) (rfl : _ = gx q133.2) w142) ?_
                                                  exact gf_236_1121 hL ih _ _ e3 _ _ (rfl : _ = gx q143.2) _ h
                                                · rw [if_neg c28] at h
                                                  refine gb_f (fun q => c28 ((gc_eq (ga_o2 (f := (fun a b => (a &&& b))) (gr ((xs (x3).toNat).toInt)) kg_31) kg_21 z36 (by decide)).mp q)) ?_
                                                  by_cases c29 : ((Int32.ofInt ((xs (x3).toNat).toInt) &&& Int32.ofInt 31)).toInt = 22
                                                  · rw [if_pos c29] at h
                                                    refine gb_t ((gc_eq (ga_o2 (f := (fun a b => (a &&& b))) (gr ((xs (x3).toNat).toInt)) kg_31) kg_22 z36 (by decide)).mpr c29) ?_
                                                    obtain ⟨z108, h⟩ := fx_gd h
                                                    refine gb_bind (gl_lds hL (ga_add e3 kg_1) z108) ?_
                                                    obtain ⟨z111, h⟩ := fx_gd h
                                                    refine gb_bind (gl_lds hL (ga_add e3 kg_2) z111) ?_
                                                    obtain ⟨q113, w112, h⟩ := fx_bd h
                                                    refine gb_bind (gf_107 (gr ((xs ((x3 + 1)).toNat).toInt)) (gr ((xs ((x3 + 2)).toNat).toInt)) es w112) ?_
                                                    refine gb_bind (gl_lds hL (ga_add e3 kg_1) z108) ?_
                                                    refine gb_bind (gl_lds hL (ga_add e3 kg_2) z111) ?_
                                                    obtain ⟨q119, w118, h⟩ := fx_bd h
                                                    refine gb_bind (gf_201 (gr ((xs ((x3 + 1)).toNat).toInt)) (gr ((xs ((x3 + 2)).toNat).toInt)) (rfl : _ = gx q113.2) w118) ?_
                                                    exact gf_236_1121 hL ih _ _ e3 _ _ (rfl : _ = gx q119.2) _ h
                                                  · rw [if_neg c29] at h
                                                    refine gb_f (fun q => c29 ((gc_eq (ga_o2 (f := (fun a b => (a &&& b))) (gr ((xs (x3).toNat).toInt)) kg_31) kg_22 z36 (by decide)).mp q)) ?_
                                                    by_cases c30 : ((Int32.ofInt ((xs (x3).toNat).toInt) &&& Int32.ofInt 31)).toInt = 23
                                                    · rw [if_pos c30] at h
                                                      refine gb_t ((gc_eq (ga_o2 (f := (fun a b => (a &&& b))) (gr ((xs (x3).toNat).toInt)) kg_31) kg_23 z36 (by decide)).mpr c30) ?_
                                                      obtain ⟨z89, h⟩ := fx_gd h
                                                      refine gb_bind (gl_lds hL (ga_add e3 kg_1) z89) ?_
                                                      obtain ⟨z92, h⟩ := fx_gd h
                                                      refine gb_bind (gl_lds hL (ga_add e3 kg_2) z92) ?_
                                                      obtain ⟨z95, h⟩ := fx_gd h
                                                      refine gb_bind (gl_lds hL (ga_add e3 kg_3) z95) ?_
                                                      obtain ⟨q97, w96, h⟩ := fx_bd h
                                                      refine gb_bind (gf_108 (gr ((xs ((x3 + 1)).toNat).toInt)) (gr ((xs ((x3 + 2)).toNat).toInt)) (gr ((xs ((x3 + 3)).toNat).toInt)) es w96) ?_
                                                      refine gb_bind (gl_lds hL (ga_add e3 kg_1) z89) ?_
                                                      refine gb_bind (gl_lds hL (ga_add e3 kg_2) z92) ?_
                                                      refine gb_bind (gl_lds hL (ga_add e3 kg_3) z95) ?_
                                                      obtain ⟨q105, w104, h⟩ := fx_bd h
                                                      refine gb_bind (gf_203 (gr ((xs ((x3 + 1)).toNat).toInt)) (gr ((xs ((x3 + 2)).toNat).toInt)) (gr ((xs ((x3 + 3)).toNat).toInt)) (rfl : _ = gx q97.2) w104) ?_
                                                      exact gf_236_1121 hL ih _ _ e3 _ _ (rfl : _ = gx q105.2) _ h
                                                    · rw [if_neg c30] at h
                                                      refine gb_f (fun q => c30 ((gc_eq (ga_o2 (f := (fun a b => (a &&& b))) (gr ((xs (x3).toNat).toInt)) kg_31) kg_23 z36 (by decide)).mp q)) ?_
                                                      by_cases c31 : ((Int32.ofInt ((xs (x3).toNat).toInt) &&& Int32.ofInt 31)).toInt = 24
                                                      · rw [if_pos c31] at h
                                                        refine gb_t ((gc_eq (ga_o2 (f := (fun a b => (a &&& b))) (gr ((xs (x3).toNat).toInt)) kg_31) kg_24 z36 (by decide)).mpr c31) ?_
                                                        obtain ⟨z80, h⟩ := fx_gd h
                                                        refine gb_bind (gl_lds hL (ga_add e3 kg_1) z80) ?_
                                                        obtain ⟨q82, w81, h⟩ := fx_bd h
                                                        refine gb_bind (gf_109 (gr ((xs ((x3 + 1)).toNat).toInt)) es w81) ?_
                                                        refine gb_bind (gl_lds hL (ga_add e3 kg_1) z80) ?_
                                                        obtain ⟨q86, w85, h⟩ := fx_bd h
                                                        refine gb_bind (gf_204 (gr ((xs ((x3 + 1)).toNat).toInt)) (rfl : _ = gx q82.2) w85) ?_
                                                        exact gf_236_1121 hL ih _ _ e3 _ _ (rfl : _ = gx q86.2) _ h
                                                      · rw [if_neg c31] at h
                                                        refine gb_f (fun q => c31 ((gc_eq (ga_o2 (f := (fun a b => (a &&& b))) (gr ((xs (x3).toNat).toInt)) kg_31) kg_24 z36 (by decide)).mp q)) ?_
                                                        by_cases c32 : ((Int32.ofInt ((xs (x3).toNat).toInt) &&& Int32.ofInt 31)).toInt = 25
                                                        · rw [if_pos c32] at h
                                                          refine gb_t ((gc_eq (ga_o2 (f := (fun a b => (a &&& b))) (gr ((xs (x3).toNat).toInt)) kg_31) kg_25 z36 (by decide)).mpr c32) ?_
                                                          obtain ⟨z71, h⟩ := fx_gd h
                                                          refine gb_bind (gl_lds hL (ga_add e3 kg_1) z71) ?_
                                                          obtain ⟨q73, w72, h⟩ := fx_bd h
                                                          refine gb_bind (gf_110 (gr ((xs ((x3 + 1)).toNat).toInt)) es w72) ?_
                                                          refine gb_bind (gl_lds hL (ga_add e3 kg_1) z71) ?_
                                                          obtain ⟨q77, w76, h⟩ := fx_bd h
                                                          refine gb_bind (gf_223 (gr ((xs ((x3 + 1)).toNat).toInt)) (rfl : _ = gx q73.2) w76) ?_
                                                          exact gf_236_1121 hL ih _ _ e3 _ _ (rfl : _ = gx q77.2) _ h
                                                        · rw [if_neg c32] at h
                                                          refine gb_f (fun q => c32 ((gc_eq (ga_o2 (f := (fun a b => (a &&& b))) (gr ((xs (x3).toNat).toInt)) kg_31) kg_25 z36 (by decide)).mp q)) ?_
                                                          by_cases c33 : ((Int32.ofInt ((xs (x3).toNat).toInt) &&& Int32.ofInt 31)).toInt = 26
                                                          · rw [if_pos c33] at h
                                                            refine gb_t ((gc_eq (ga_o2 (f := (fun a b => (a &&& b))) (gr ((xs (x3).toNat).toInt)) kg_31) kg_26 z36 (by decide)).mpr c33) ?_
                                                            obtain ⟨z62, h⟩ := fx_gd h
                                                            refine gb_bind (gl_lds hL (ga_add e3 kg_1) z62) ?_
                                                            obtain ⟨q64, w63, h⟩ := fx_bd h
                                                            refine gb_bind (gf_111 (gr ((xs ((x3 + 1)).toNat).toInt)) es w63) ?_
                                                            refine gb_bind (gl_lds hL (ga_add e3 kg_1) z62) ?_
                                                            obtain ⟨q68, w67, h⟩ := fx_bd h
                                                            refine gb_bind (gf_226 (gr ((xs ((x3 + 1)).toNat).toInt)) (rfl : _ = gx q64.2) w67) ?_
                                                            exact gf_236_1121 hL ih _ _ e3 _ _ (rfl : _ = gx q68.2) _ h
                                                          · rw [if_neg c33] at h
                                                            refine gb_f (fun q => c33 ((gc_eq (ga_o2 (f := (fun a b => (a &&& b))) (gr ((xs (x3).toNat).toInt)) kg_31) kg_26 z36 (by decide)).mp q)) ?_
                                                            by_cases c34 : ((Int32.ofInt ((xs (x3).toNat).toInt) &&& Int32.ofInt 31)).toInt = 27
                                                            · rw [if_pos c34] at h
                                                              refine gb_t ((gc_eq (ga_o2 (f := (fun a b => (a &&& b))) (gr ((xs (x3).toNat).toInt)) kg_31) kg_27 z36 (by decide)).mpr c34) ?_
                                                              obtain ⟨z48, h⟩ := fx_gd h
                                                              refine gb_bind (gl_lds hL (ga_add e3 kg_1) z48) ?_
                                                              obtain ⟨z51, h⟩ := fx_gd h
                                                              refine gb_bind (gl_lds hL (ga_add e3 kg_2) z51) ?_
                                                              obtain ⟨q53, w52, h⟩ := fx_bd h
                                                              refine gb_bind (gf_112 (gr ((xs ((x3 + 1)).toNat).toInt)) (gr ((xs ((x3 + 2)).toNat).toInt)) es w52) ?_
                                                              refine gb_bind (gl_lds hL (ga_add e3 kg_1) z48) ?_
                                                              refine gb_bind (gl_lds hL (ga_add e3 kg_2) z51) ?_
                                                              obtain ⟨q59, w58, h⟩ := fx_bd h
                                                              refine gb_bind (gf_227 (gr ((xs ((x3 + 1)).toNat).toInt)) (gr ((xs ((x3 + 2)).toNat).toInt)) (rfl : _ = gx q53.2) w58) ?_
                                                              exact gf_236_1121 hL ih _ _ e3 _ _ (rfl : _ = gx q59.2) _ h
                                                            · rw [if_neg c34] at h
                                                              refine gb_f (fun q => c34 ((gc_eq (ga_o2 (f := (fun a b => (a &&& b))) (gr ((xs (x3).toNat).toInt)) kg_31) kg_27 z36 (by decide)).mp q)) ?_
                                                              by_cases c35 : ((Int32.ofInt ((xs (x3).toNat).toInt) &&& Int32.ofInt 31)).toInt = 28
                                                              · rw [if_pos c35] at h
                                                                refine gb_t ((gc_eq (ga_o2 (f := (fun a b => (a &&& b))) (gr ((xs (x3).toNat).toInt)) kg_31) kg_28 z36 (by decide)).mpr c35) ?_
                                                                obtain ⟨z39, h⟩ := fx_gd h
                                                                refine gb_bind (gl_lds hL (ga_add e3 kg_1) z39) ?_
                                                                obtain ⟨q41, w40, h⟩ := fx_bd h
                                                                refine gb_bind (gf_113 (gr ((xs ((x3 + 1)).toNat).toInt)) es w40) ?_
                                                                refine gb_bind (gl_lds hL (ga_add e3 kg_1) z39) ?_
                                                                obtain ⟨q45, w44, h⟩ := fx_bd h
                                                                refine gb_bind (gf_228 (gr ((xs ((x3 + 1)).toNat).toInt)) (rfl : _ = gx q41.2) w44) ?_
                                                                exact gf_236_1121 hL ih _ _ e3 _ _ (rfl : _ = gx q45.2) _ h
                                                              · rw [if_neg c35] at h
                                                                refine gb_f (fun q => c35 ((gc_eq (ga_o2 (f := (fun a b => (a &&& b))) (gr ((xs (x3).toNat).toInt)) kg_31) kg_28 z36 (by decide)).mp q)) ?_
                                                                exact gf_236_1121 hL ih _ _ e3 _ _ es _ h
