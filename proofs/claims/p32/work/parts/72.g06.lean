/-! ZoneSharesModel.count(I)I -/
def gm_226 (x1 : Int) (s : gx_S) : Option (Int × gx_S) :=
  if (-2147483648 ≤ x1 ∧ x1 ≤ 2147483647) then (
  if x1 = 0 then (
    (gm_151 s).bind fun q66 =>
    some (q66.1, q66.2)) else (
    if x1 = 1 then (
      some ((s.1 216 0), s)) else (
      if x1 = 2 then (
        (gm_154 0 8 s).bind fun q62 =>
        some (q62.1, q62.2)) else (
        if x1 = 3 then (
          (gm_154 1 8 s).bind fun q60 =>
          some (q60.1, q60.2)) else (
          if x1 = 4 then (
            (gm_154 2 4 s).bind fun q58 =>
            some (q58.1, q58.2)) else (
            if x1 = 5 then (
              some ((s.1 216 3), s)) else (
              if x1 = 6 then (
                some ((s.1 216 4), s)) else (
                if x1 = 7 then (
                  some ((s.1 216 2), s)) else (
                  if x1 = 8 then (
                    some ((s.1 215 2), s)) else (
                    if x1 = 9 then (
                      some ((s.1 215 4), s)) else (
                      if x1 = 10 then (
                        (gm_224 s).bind fun q50 =>
                        some (q50.1, q50.2)) else (
                        if x1 = 11 then (
                          (gm_225 s).bind fun q48 =>
                          some (q48.1, q48.2)) else (
                          some ((-1), s)))))))))))))) else none
