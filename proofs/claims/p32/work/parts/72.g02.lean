/-! ZoneSharesModel.people(II)I -/
def gm_179 (x1 : Int) (x2 : Int) (s : gx_S) : Option (Int × gx_S) :=
  (gm_148 x1 s).bind fun q23 =>
  if (gb q23.1) = 0 then (
    some ((-1), q23.2)) else (
    if (-2147483648 ≤ x2 ∧ x2 ≤ 2147483647) then (
    (gm_130 x2 0 10 q23.2).bind fun q27 =>
    if ¬ (gb q27.1) = 0 then (
      if x2 = 8 then (
        (gm_174 x1 q27.2).bind fun q42 =>
        some (q42.1, q42.2)) else (
        if x2 = 9 then (
          (gm_176 x1 q27.2).bind fun q40 =>
          some (q40.1, q40.2)) else (
          if x2 = 10 then (
            (gm_178 x1 q27.2).bind fun q38 =>
            some (q38.1, q38.2)) else (
            (gm_177 x1 q27.2).bind fun q33 =>
            if 0 ≤ x2 ∧ x2 < 8 then (
            some ((q33.1 236 (x2).toNat), q33)) else none)))) else (
      some ((-1), q27.2))) else none)
/-! ZoneSharesModel.byCells(II)Z -/
def gm_180 (x1 : Int) (x2 : Int) (s : gx_S) : Option (Bool × gx_S) :=
  (gm_157 x1 x2 (-1) 0 s).bind fun q6 =>
  if (-2147483648 ≤ q6.1 ∧ q6.1 ≤ 2147483647) then (
  if ¬ q6.1 = 0 then (
    some (false, q6.2)) else (
    some (true, q6.2))) else none
/-! ZoneSharesModel.laysMoved(I)V -/
def gm_181_44 (k_15 : Int → Int → gx_S → Option (gx_S)) : Nat → Int → Int → Int → Int → gx_S → Option (gx_S)
  | 0, _, _, _, _, _ => none
  | n + 1, x1, x2, x3, x4, s =>
    if (-2147483648 ≤ x4 ∧ x4 ≤ 2147483647) then (
    if 9 ≤ x4 then (
      k_15 x1 (x2 + 1) s) else (
      (gm_160 x2 x4 s).bind fun q4 =>
      (gm_157 x1 x2 x4 x3 q4.2).bind fun q6 =>
      if 0 ≤ q4.1 ∧ q4.1 < 72 then (
      gm_181_44 k_15 n x1 x2 x3 (x4 + 1) (gw1 q6.2 222 (q4.1).toNat q6.1)) else none)) else none
def gm_181_15 : Nat → Int → Int → gx_S → Option (gx_S)
  | 0, _, _, _ => none
  | n + 1, x1, x2, s =>
    if (-2147483648 ≤ x2 ∧ x2 ≤ 2147483647) then (
    if 8 ≤ x2 then (
      some s) else (
      if 0 ≤ x2 ∧ x2 < 8 then (
      if (-2147483648 ≤ (s.1 236 (x2).toNat) ∧ (s.1 236 (x2).toNat) ≤ 2147483647) then (
      (gm_180 x1 x2 (gw2 s 221 (x2).toNat (s.1 236 (x2).toNat))).bind fun q10 =>
      gm_181_44 (gm_181_15 n) 100000 x1 x2 (gb q10.1) 0 q10.2) else none) else none)) else none
def gm_181 (x1 : Int) (s : gx_S) : Option (gx_S) :=
  (gm_177 x1 s).bind fun q35 =>
  (gm_159 8 9 q35).bind fun q37 =>
  gm_181_15 100000 x1 0 q37
/-! ZoneSharesModel.rowSum(I)I -/
def gm_182_4 : Nat → Int → Int → Int → gx_S → Option (Int × gx_S)
  | 0, _, _, _, _ => none
  | n + 1, x1, x2, x3, s =>
    if (-2147483648 ≤ x3 ∧ x3 ≤ 2147483647) then (
    if (-2147483648 ≤ (s.1 215 18) ∧ (s.1 215 18) ≤ 2147483647) then (
    if (s.1 215 18) ≤ x3 then (
      some (x2, s)) else (
      (gm_160 x1 x3 s).bind fun q5 =>
      if 0 ≤ q5.1 ∧ q5.1 < 72 then (
      gm_182_4 n x1 (x2 + (q5.2.2 224 (q5.1).toNat)) (x3 + 1) q5.2) else none)) else none) else none
def gm_182 (x1 : Int) (s : gx_S) : Option (Int × gx_S) :=
  gm_182_4 100000 x1 0 0 s
/-! ZoneSharesModel.columnSum(I)I -/
def gm_183_4 : Nat → Int → Int → Int → gx_S → Option (Int × gx_S)
  | 0, _, _, _, _ => none
  | n + 1, x1, x2, x3, s =>
    if (-2147483648 ≤ x3 ∧ x3 ≤ 2147483647) then (
    if (-2147483648 ≤ (s.1 215 17) ∧ (s.1 215 17) ≤ 2147483647) then (
    if (s.1 215 17) ≤ x3 then (
      some (x2, s)) else (
      (gm_160 x3 x1 s).bind fun q5 =>
      if 0 ≤ q5.1 ∧ q5.1 < 72 then (
      gm_183_4 n x1 (x2 + (q5.2.2 224 (q5.1).toNat)) (x3 + 1) q5.2) else none)) else none) else none
def gm_183 (x1 : Int) (s : gx_S) : Option (Int × gx_S) :=
  gm_183_4 100000 x1 0 0 s
/-! ZoneSharesModel.tableSum()I -/
def gm_184_4 : Nat → Int → Int → gx_S → Option (Int × gx_S)
  | 0, _, _, _ => none
  | n + 1, x1, x2, s =>
    if (-2147483648 ≤ x2 ∧ x2 ≤ 2147483647) then (
    if (-2147483648 ≤ (s.1 215 17) ∧ (s.1 215 17) ≤ 2147483647) then (
    if (s.1 215 17) ≤ x2 then (
      some (x1, s)) else (
      (gm_182 x2 s).bind fun q5 =>
      gm_184_4 n (x1 + q5.1) (x2 + 1) q5.2)) else none) else none
def gm_184 (s : gx_S) : Option (Int × gx_S) :=
  gm_184_4 100000 0 0 s
/-! ZoneSharesModel.districtAt(I)I -/
def gm_186 (x1 : Int) (s : gx_S) : Option (Int × gx_S) :=
  if (-2147483648 ≤ x1 ∧ x1 ≤ 2147483647) then (
  if ¬ x1 = 8 then (
    if 0 ≤ (44 + x1) ∧ (44 + x1) < 340 then (
    some ((s.1 216 ((44 + x1)).toNat), s)) else none) else (
    some (4, s))) else none
/-! ZoneSharesModel.laysCoarse(I)V -/
def gm_187_91 (k_7 : Int → gx_S → Option (gx_S)) : Nat → Int → Int → gx_S → Option (gx_S)
  | 0, _, _, _ => none
  | n + 1, x2, x4, s =>
    if (-2147483648 ≤ x4 ∧ x4 ≤ 2147483647) then (
    if 4 < x4 then (
      k_7 (x2 + 1) s) else (
      (gm_160 x2 x4 s).bind fun q4 =>
      if 0 ≤ x4 ∧ x4 < 5 then (
      if 0 ≤ q4.1 ∧ q4.1 < 72 then (
      gm_187_91 k_7 n x2 (x4 + 1) (gw1 q4.2 222 (q4.1).toNat (q4.2.1 237 (x4).toNat))) else none) else none)) else none
def gm_187_41 (k_7 : Int → gx_S → Option (gx_S)) : Nat → Int → Int → gx_S → Option (gx_S)
  | 0, _, _, _ => none
  | n + 1, x2, x4, s =>
    if (-2147483648 ≤ x4 ∧ x4 ≤ 2147483647) then (
    if 9 ≤ x4 then (
      gm_187_91 k_7 100000 x2 0 s) else (
      (gm_186 x4 s).bind fun q4 =>
      if 0 ≤ q4.1 ∧ q4.1 < 5 then (
      (gm_160 x2 x4 q4.2).bind fun q9 =>
      if 0 ≤ q9.1 ∧ q9.1 < 72 then (
      (gm_160 x2 x4 (gw1 q9.2 237 (q4.1).toNat ((q4.2.1 237 (q4.1).toNat) + (q9.2.1 222 (q9.1).toNat)))).bind fun q16 =>
      if 0 ≤ q16.1 ∧ q16.1 < 72 then (
      gm_187_41 k_7 n x2 (x4 + 1) (gw1 q16.2 222 (q16.1).toNat 0)) else none) else none) else none)) else none
def gm_187_21 (k_7 : Int → gx_S → Option (gx_S)) : Nat → Int → Int → gx_S → Option (gx_S)
  | 0, _, _, _ => none
  | n + 1, x2, x4, s =>
    if (-2147483648 ≤ x4 ∧ x4 ≤ 2147483647) then (
    if 4 < x4 then (
      gm_187_41 k_7 100000 x2 0 s) else (
      if 0 ≤ x4 ∧ x4 < 5 then (
      gm_187_21 k_7 n x2 (x4 + 1) (gw1 s 237 (x4).toNat 0)) else none)) else none
def gm_187_7 : Nat → Int → gx_S → Option (gx_S)
  | 0, _, _ => none
  | n + 1, x2, s =>
    if (-2147483648 ≤ x2 ∧ x2 ≤ 2147483647) then (
    if 8 ≤ x2 then (
      some (gw1 s 215 18 5)) else (
      gm_187_21 (gm_187_7 n) 100000 x2 0 s)) else none
def gm_187 (x1 : Int) (s : gx_S) : Option (gx_S) :=
  (gm_181 x1 s).bind fun q42 =>
  gm_187_7 100000 0 q42
/-! ZoneSharesModel.laysWay(IIZ)V -/
def gm_190_43 (k_3 : Int → Int → Int → Int → gx_S → Option (gx_S)) (x1 : Int) (x2 : Int) (x3 : Int) (x4 : Int) (s1 : Int) (s2 : Int) (s : gx_S) : Option (gx_S) :=
  if 0 ≤ s1 ∧ s1 < 72 then (
  k_3 x1 x2 x3 (x4 + 1) (gw1 s 222 (s1).toNat s2)) else none
def gm_190_3 : Nat → Int → Int → Int → Int → gx_S → Option (gx_S)
  | 0, _, _, _, _, _ => none
  | n + 1, x1, x2, x3, x4, s =>
    if (-2147483648 ≤ x4 ∧ x4 ≤ 2147483647) then (
    if 8 ≤ x4 then (
      some s) else (
      (gm_160 x2 x4 s).bind fun q4 =>
      (gm_186 x4 q4.2).bind fun q6 =>
      if (-2147483648 ≤ q6.1 ∧ q6.1 ≤ 2147483647) then (
      if (-2147483648 ≤ x2 ∧ x2 ≤ 2147483647) then (
      if ¬ q6.1 = x2 then (
        gm_190_43 (gm_190_3 n) x1 x2 x3 x4 q4.1 0 q6.2) else (
        (gm_157 x1 (-1) x4 x3 q6.2).bind fun q11 =>
        gm_190_43 (gm_190_3 n) x1 x2 x3 x4 q4.1 q11.1 q11.2)) else none) else none)) else none
def gm_190 (x1 : Int) (x2 : Int) (x3 : Int) (s : gx_S) : Option (gx_S) :=
  gm_190_3 100000 x1 x2 x3 0 s
/-! ZoneSharesModel.lowest(JJI)J -/
def gm_194 (x0 : Int) (x2 : Int) (x4 : Int) (s : gx_S) : Option (Int × gx_S) :=
  (gm_164 x0 x2 s).bind fun q10 =>
  if (-2147483648 ≤ x4 ∧ x4 ≤ 2147483647) then (
  if ¬ x4 = 0 then (
    if 0 ≤ x2 ∧ x2 ≤ 9223372036854775807 ∧ 0 < q10.1 ∧ q10.1 ≤ 9223372036854775807 then (
    some ((x2 / q10.1), q10.2)) else none) else (
    if 0 ≤ x0 ∧ x0 ≤ 9223372036854775807 ∧ 0 < q10.1 ∧ q10.1 ≤ 9223372036854775807 then (
    some ((x0 / q10.1), q10.2)) else none)) else none
/-! ZoneSharesModel.share(IIII)I -/
def gm_195 (x1 : Int) (x2 : Int) (x3 : Int) (x4 : Int) (s : gx_S) : Option (Int × gx_S) :=
  (gm_150 s).bind fun q33 =>
  if (gb q33.1) = 0 then (
    some ((-1), q33.2)) else (
    (gm_148 x1 q33.2).bind fun q36 =>
    if (gb q36.1) = 0 then (
      some ((-1), q36.2)) else (
      if (-2147483648 ≤ x2 ∧ x2 ≤ 2147483647) then (
      (gm_130 x2 0 7 q36.2).bind fun q40 =>
      if (gb q40.1) = 0 then (
        some ((-1), q40.2)) else (
        (gm_153 0 x2 q40.2).bind fun q43 =>
        if (gb q43.1) = 0 then (
          some ((-1), q43.2)) else (
          if (-2147483648 ≤ x3 ∧ x3 ≤ 2147483647) then (
          (gm_130 x3 0 8 q43.2).bind fun q47 =>
          if (gb q47.1) = 0 then (
            some ((-1), q47.2)) else (
            if (-2147483648 ≤ x4 ∧ x4 ≤ 2147483647) then (
            (gm_130 x4 0 1 q47.2).bind fun q51 =>
            if ¬ (gb q51.1) = 0 then (
              (gm_180 x1 x2 q51.2).bind fun q54 =>
              (gm_157 x1 x2 x3 (gb q54.1) q54.2).bind fun q56 =>
              if (-2147483648 ≤ q56.1 ∧ q56.1 ≤ 2147483647) then (
              (gm_157 x1 x2 (-1) (gb q54.1) q56.2).bind fun q59 =>
              if (-2147483648 ≤ q59.1 ∧ q59.1 ≤ 2147483647) then (
              (gm_194 q56.1 q59.1 x4 q59.2).bind fun q62 =>
              some (q62.1, q62.2)) else none) else none) else (
              some ((-1), q51.2))) else none)) else none))) else none))
/-! ZoneSharesModel.exact(III)J -/
def gm_196_38 (s : gx_S) : Option (Int × gx_S) :=
  some ((-1), s)
def gm_196_125 (k_63 : Int → Int → Int → Int → gx_S → Option (Int × gx_S)) (x2 : Int) (x3 : Int) (x4 : Int) (x6 : Int) (s : gx_S) : Option (Int × gx_S) :=
  k_63 x2 x3 x4 (x6 + 1) s
def gm_196_63 : Nat → Int → Int → Int → Int → gx_S → Option (Int × gx_S)
  | 0, _, _, _, _, _ => none
  | n + 1, x2, x3, x4, x6, s =>
    if (-2147483648 ≤ x6 ∧ x6 ≤ 2147483647) then (
    if 8 ≤ x6 then (
      if 0 ≤ (s.2 215 29) ∧ (s.2 215 29) ≤ 9223372036854775807 ∧ 0 < (s.2 215 30) ∧ (s.2 215 30) ≤ 9223372036854775807 then (
      if (-2147483648 ≤ x3 ∧ x3 ≤ 2147483647) then (
      if ¬ x3 = 0 then (
        (gm_194 ((s.2 215 29) % (s.2 215 30)) (s.2 215 30) (x3 - 1) s).bind fun q9 =>
        some (q9.1, q9.2)) else (
        some ((x4 + ((s.2 215 29) / (s.2 215 30))), s))) else none) else none) else (
      (gm_161 x6 s).bind fun q11 =>
      if (-2147483648 ≤ q11.1 ∧ q11.1 ≤ 2147483647) then (
      if q11.1 ≤ 0 then (
        gm_196_125 (gm_196_63 n) x2 x3 x4 x6 q11.2) else (
        (gm_162 x6 q11.2).bind fun q15 =>
        (gm_160 x6 x2 q15.2).bind fun q17 =>
        if 0 ≤ q17.1 ∧ q17.1 < 72 then (
        (gm_160 x6 x2 q17.2).bind fun q22 =>
        if 0 ≤ q22.1 ∧ q22.1 < 72 then (
        if 0 ≤ x6 ∧ x6 < 8 then (
        if (-2147483648 ≤ (q22.2.1 223 (x6).toNat) ∧ (q22.2.1 223 (x6).toNat) ≤ 2147483647) then (
        (gm_165 (q22.2.2 225 (q22.1).toNat) (q22.2.1 223 (x6).toNat) q22.2).bind fun q31 =>
        gm_196_125 (gm_196_63 n) x2 x3 (x4 + (q17.2.2 224 (q17.1).toNat)) x6 q31) else none) else none) else none) else none)) else none)) else none
def gm_196 (x1 : Int) (x2 : Int) (x3 : Int) (s : gx_S) : Option (Int × gx_S) :=
  (gm_150 s).bind fun q49 =>
  if (gb q49.1) = 0 then (
    gm_196_38 q49.2) else (
    (gm_148 x1 q49.2).bind fun q52 =>
    if (gb q52.1) = 0 then (
      gm_196_38 q52.2) else (
      if (-2147483648 ≤ x2 ∧ x2 ≤ 2147483647) then (
      (gm_130 x2 0 8 q52.2).bind fun q56 =>
      if (gb q56.1) = 0 then (
        gm_196_38 q56.2) else (
        if (-2147483648 ≤ x3 ∧ x3 ≤ 2147483647) then (
        (gm_130 x3 0 2 q56.2).bind fun q60 =>
        if ¬ (gb q60.1) = 0 then (
          (gm_181 x1 q60.2).bind fun q63 =>
          gm_196_63 100000 x2 x3 0 0 (gw2 (gw2 q63 215 29 0) 215 30 1)) else (
          gm_196_38 q60.2)) else none)) else none))
/-! ZoneSharesModel.laysSurface(I)V -/
def gm_197_96 (k_7 : Int → Int → gx_S → Option (gx_S)) (x1 : Int) (x2 : Int) (s : gx_S) : Option (gx_S) :=
  k_7 x1 (x2 + 1) s
def gm_197_77 (k_7 : Int → Int → gx_S → Option (gx_S)) (x1 : Int) (x2 : Int) (x3 : Int) (x4 : Int) (s1 : Int) (s2 : Int) (s3 : Int) (s : gx_S) : Option (gx_S) :=
  if (-2147483648 ≤ s3 ∧ s3 ≤ 2147483647) then (
  if 0 ≤ s1 ∧ s1 < 96 then (
  (gm_157 x1 x3 (-1) x4 (gw2 s 240 (s1).toNat (s2 * s3))).bind fun q6 =>
  if (-2147483648 ≤ q6.1 ∧ q6.1 ≤ 2147483647) then (
  if 0 ≤ x2 ∧ x2 < 96 then (
  gm_197_96 k_7 x1 x2 (gw2 q6.2 241 (x2).toNat q6.1)) else none) else none) else none) else none
def gm_197_7 : Nat → Int → Int → gx_S → Option (gx_S)
  | 0, _, _, _ => none
  | n + 1, x1, x2, s =>
    (gm_151 s).bind fun q2 =>
    if (-2147483648 ≤ x2 ∧ x2 ≤ 2147483647) then (
    if (-2147483648 ≤ q2.1 ∧ q2.1 ≤ 2147483647) then (
    if q2.1 ≤ x2 then (
      some q2.2) else (
      (gm_152 0 x2 q2.2).bind fun q7 =>
      if 0 ≤ x2 ∧ x2 < 96 then (
      if (-2147483648 ≤ q7.1 ∧ q7.1 ≤ 2147483647) then (
      if q7.1 = 8 then (
        gm_197_96 (gm_197_7 n) x1 x2 (gw2 (gw2 q7.2 240 (x2).toNat 0) 241 (x2).toNat 1)) else (
        (gm_180 x1 q7.1 (gw2 (gw2 q7.2 240 (x2).toNat 0) 241 (x2).toNat 1)).bind fun q16 =>
        if 0 ≤ q7.1 ∧ q7.1 < 8 then (
        if (-2147483648 ≤ (q16.2.1 236 (q7.1).toNat) ∧ (q16.2.1 236 (q7.1).toNat) ≤ 2147483647) then (
        if (gb q16.1) = 0 then (
          (gm_156 x1 x2 q16.2).bind fun q23 =>
          gm_197_77 (gm_197_7 n) x1 x2 q7.1 (gb q16.1) x2 (q16.2.1 236 (q7.1).toNat) q23.1 q23.2) else (
          gm_197_77 (gm_197_7 n) x1 x2 q7.1 (gb q16.1) x2 (q16.2.1 236 (q7.1).toNat) 1 q16.2)) else none) else none)) else none) else none)) else none) else none
def gm_197 (x1 : Int) (s : gx_S) : Option (gx_S) :=
  (gm_177 x1 s).bind fun q60 =>
  gm_197_7 100000 x1 0 q60
/-! ZoneSharesModel.isCell(II)Z -/
def gm_198 (x1 : Int) (x2 : Int) (s : gx_S) : Option (Bool × gx_S) :=
  if (-2147483648 ≤ x1 ∧ x1 ≤ 2147483647) then (
  if (-2147483648 ≤ ((s.1 216 0) - 1) ∧ ((s.1 216 0) - 1) ≤ 2147483647) then (
  (gm_130 x1 0 ((s.1 216 0) - 1) s).bind fun q20 =>
  if (gb q20.1) = 0 then (
    some (false, q20.2)) else (
    if (-2147483648 ≤ x2 ∧ x2 ≤ 2147483647) then (
    if (-2147483648 ≤ ((q20.2.1 216 1) - 1) ∧ ((q20.2.1 216 1) - 1) ≤ 2147483647) then (
    (gm_130 x2 0 ((q20.2.1 216 1) - 1) q20.2).bind fun q27 =>
    if (gb q27.1) = 0 then (
      some (false, q27.2)) else (
      some (true, q27.2))) else none) else none)) else none) else none
/-! ZoneSharesModel.surface(IIII)J -/
def gm_199_34 (s : gx_S) : Option (Int × gx_S) :=
  some ((-1), s)
def gm_199 (x1 : Int) (x2 : Int) (x3 : Int) (x4 : Int) (s : gx_S) : Option (Int × gx_S) :=
  (gm_150 s).bind fun q26 =>
  if (gb q26.1) = 0 then (
    gm_199_34 q26.2) else (
    (gm_148 x1 q26.2).bind fun q29 =>
    if (gb q29.1) = 0 then (
      gm_199_34 q29.2) else (
      (gm_198 x2 x3 q29.2).bind fun q32 =>
      if (gb q32.1) = 0 then (
        gm_199_34 q32.2) else (
        if (-2147483648 ≤ x4 ∧ x4 ≤ 2147483647) then (
        (gm_130 x4 0 1 q32.2).bind fun q36 =>
        if ¬ (gb q36.1) = 0 then (
          (gm_197 x1 q36.2).bind fun q39 =>
          if 0 ≤ (((q39.1 216 1) * x2) + x3) ∧ (((q39.1 216 1) * x2) + x3) < 96 then (
          (gm_194 (q39.2 240 ((((q39.1 216 1) * x2) + x3)).toNat) (q39.2 241 ((((q39.1 216 1) * x2) + x3)).toNat) x4 q39).bind fun q48 =>
          some (q48.1, q48.2)) else none) else (
          gm_199_34 q36.2)) else none)))
/-! ZoneSharesModel.isAhead(II)Z -/
def gm_200 (x1 : Int) (x2 : Int) (s : gx_S) : Option (Bool × gx_S) :=
  if 0 ≤ x1 ∧ x1 < 96 then (
  if 0 ≤ x2 ∧ x2 < 96 then (
  if (-9223372036854775808 ≤ ((s.2 240 (x1).toNat) * (s.2 241 (x2).toNat)) ∧ ((s.2 240 (x1).toNat) * (s.2 241 (x2).toNat)) ≤ 9223372036854775807) then (
  if (-9223372036854775808 ≤ ((s.2 240 (x2).toNat) * (s.2 241 (x1).toNat)) ∧ ((s.2 240 (x2).toNat) * (s.2 241 (x1).toNat)) ≤ 9223372036854775807) then (
  if ((s.2 240 (x1).toNat) * (s.2 241 (x2).toNat)) = ((s.2 240 (x2).toNat) * (s.2 241 (x1).toNat)) then (
    if (-2147483648 ≤ x1 ∧ x1 ≤ 2147483647) then (
    if (-2147483648 ≤ x2 ∧ x2 ≤ 2147483647) then (
    if x2 ≤ x1 then (
      some (false, s)) else (
      some (true, s))) else none) else none) else (
    if ((s.2 240 (x1).toNat) * (s.2 241 (x2).toNat)) ≤ ((s.2 240 (x2).toNat) * (s.2 241 (x1).toNat)) then (
      some (false, s)) else (
      some (true, s)))) else none) else none) else none) else none
/-! ZoneSharesModel.densest(II)I -/
def gm_201_53 (k_39 : Int → Int → gx_S → Option (Int × gx_S)) : Nat → Int → Int → Int → Int → gx_S → Option (Int × gx_S)
  | 0, _, _, _, _, _ => none
  | n + 1, x2, x3, x4, x5, s =>
    (gm_151 s).bind fun q2 =>
    if (-2147483648 ≤ x5 ∧ x5 ≤ 2147483647) then (
    if (-2147483648 ≤ q2.1 ∧ q2.1 ≤ 2147483647) then (
    if q2.1 ≤ x5 then (
      if (-2147483648 ≤ x4 ∧ x4 ≤ 2147483647) then (
      if (-2147483648 ≤ x2 ∧ x2 ≤ 2147483647) then (
      if ¬ x4 = x2 then (
        k_39 x2 (x3 + 1) q2.2) else (
        if 0 ≤ x3 ∧ x3 ≤ 2147483647 ∧ 0 < (q2.2.1 216 1) ∧ (q2.2.1 216 1) ≤ 2147483647 then (
        some (((12 * (x3 / (q2.2.1 216 1))) + (x3 % (q2.2.1 216 1))), q2.2)) else none)) else none) else none) else (
      (gm_200 x5 x3 q2.2).bind fun q17 =>
      (gm_131 (gb q17.1) q17.2).bind fun q19 =>
      gm_201_53 k_39 n x2 x3 (x4 + q19.1) (x5 + 1) q19.2)) else none) else none
def gm_201_39 : Nat → Int → Int → gx_S → Option (Int × gx_S)
  | 0, _, _, _ => none
  | n + 1, x2, x3, s =>
    (gm_151 s).bind fun q2 =>
    if (-2147483648 ≤ x3 ∧ x3 ≤ 2147483647) then (
    if (-2147483648 ≤ q2.1 ∧ q2.1 ≤ 2147483647) then (
    if q2.1 ≤ x3 then (
      some ((-1), q2.2)) else (
      gm_201_53 (gm_201_39 n) 100000 x2 x3 0 0 q2.2)) else none) else none
def gm_201 (x1 : Int) (x2 : Int) (s : gx_S) : Option (Int × gx_S) :=
  (gm_150 s).bind fun q46 =>
  if (gb q46.1) = 0 then (
    some ((-1), q46.2)) else (
    (gm_148 x1 q46.2).bind fun q49 =>
    if (gb q49.1) = 0 then (
      some ((-1), q49.2)) else (
      if (-2147483648 ≤ x2 ∧ x2 ≤ 2147483647) then (
      (gm_151 q49.2).bind fun q53 =>
      if (-2147483648 ≤ (q53.1 - 1) ∧ (q53.1 - 1) ≤ 2147483647) then (
      (gm_130 x2 0 (q53.1 - 1) q53.2).bind fun q56 =>
      if ¬ (gb q56.1) = 0 then (
        (gm_197 x1 q56.2).bind fun q59 =>
        gm_201_39 100000 x2 0 q59) else (
        some ((-1), q56.2))) else none) else none))
/-! ZoneSharesModel.newCells(I)I -/
def gm_202_28 (k_4 : Int → Int → Int → gx_S → Option (Int × gx_S)) (x1 : Int) (x3 : Int) (s0 : Int) (s1 : Int) (s : gx_S) : Option (Int × gx_S) :=
  (gm_131 s1 s).bind fun q2 =>
  k_4 x1 (s0 + q2.1) (x3 + 1) q2.2
def gm_202_4 : Nat → Int → Int → Int → gx_S → Option (Int × gx_S)
  | 0, _, _, _, _ => none
  | n + 1, x1, x2, x3, s =>
    (gm_151 s).bind fun q2 =>
    if (-2147483648 ≤ x3 ∧ x3 ≤ 2147483647) then (
    if (-2147483648 ≤ q2.1 ∧ q2.1 ≤ 2147483647) then (
    if q2.1 ≤ x3 then (
      some (x2, q2.2)) else (
      (gm_152 1 x3 q2.2).bind fun q7 =>
      if (-2147483648 ≤ q7.1 ∧ q7.1 ≤ 2147483647) then (
      if (-2147483648 ≤ x1 ∧ x1 ≤ 2147483647) then (
      if ¬ q7.1 = x1 then (
        gm_202_28 (gm_202_4 n) x1 x3 x2 0 q7.2) else (
        gm_202_28 (gm_202_4 n) x1 x3 x2 1 q7.2)) else none) else none)) else none) else none
def gm_202 (x1 : Int) (s : gx_S) : Option (Int × gx_S) :=
  gm_202_4 100000 x1 0 0 s
/-! ZoneSharesModel.laysCellsOf(I)V -/
def gm_205_121 : Nat → Int → Int → gx_S → Option (gx_S)
  | 0, _, _, _ => none
  | n + 1, x1, x2, s =>
    if (-2147483648 ≤ x2 ∧ x2 ≤ 2147483647) then (
    if 4 ≤ x2 then (
      some s) else (
      if 0 ≤ ((32 + (4 * x1)) + x2) ∧ ((32 + (4 * x1)) + x2) < 340 then (
      if 0 ≤ x2 ∧ x2 < 4 then (
      gm_205_121 n x1 (x2 + 1) (gw1 s 243 (x2).toNat (s.1 216 (((32 + (4 * x1)) + x2)).toNat))) else none) else none)) else none
def gm_205_109 (k_79 : Int → Int → gx_S → Option (gx_S)) (x1 : Int) (x2 : Int) (s1 : Int) (s2 : Int) (s : gx_S) : Option (gx_S) :=
  k_79 x1 (x2 + 1) (gw1 s 215 42 (s1 + s2))
def gm_205_79 : Nat → Int → Int → gx_S → Option (gx_S)
  | 0, _, _, _ => none
  | n + 1, x1, x2, s =>
    if (-2147483648 ≤ x2 ∧ x2 ≤ 2147483647) then (
    if 8 ≤ x2 then (
      gm_205_121 100000 x1 0 s) else (
      (gm_153 0 x2 s).bind fun q4 =>
      if (gb q4.1) = 0 then (
        gm_205_109 (gm_205_79 n) x1 x2 (s.1 215 42) 0 q4.2) else (
        (gm_155 x1 x2 q4.2).bind fun q7 =>
        gm_205_109 (gm_205_79 n) x1 x2 (s.1 215 42) q7.1 q7.2))) else none
def gm_205_66 (k_23 : Int → Int → gx_S → Option (gx_S)) (x1 : Int) (x2 : Int) (s : gx_S) : Option (gx_S) :=
  k_23 x1 (x2 + 1) s
def gm_205_23 : Nat → Int → Int → gx_S → Option (gx_S)
  | 0, _, _, _ => none
  | n + 1, x1, x2, s =>
    (gm_151 s).bind fun q2 =>
    if (-2147483648 ≤ x2 ∧ x2 ≤ 2147483647) then (
    if (-2147483648 ≤ q2.1 ∧ q2.1 ≤ 2147483647) then (
    if q2.1 ≤ x2 then (
      gm_205_79 100000 x1 0 (gw1 q2.2 215 42 0)) else (
      (gm_152 0 x2 q2.2).bind fun q7 =>
      if (-2147483648 ≤ q7.1 ∧ q7.1 ≤ 2147483647) then (
      if q7.1 = 8 then (
        gm_205_66 (gm_205_23 n) x1 x2 q7.2) else (
        (gm_152 0 x2 q7.2).bind fun q11 =>
        (gm_152 2 x2 q11.2).bind fun q13 =>
        if 0 ≤ ((4 * q11.1) + q13.1) ∧ ((4 * q11.1) + q13.1) < 32 then (
        gm_205_66 (gm_205_23 n) x1 x2 (gw1 q13.2 242 (((4 * q11.1) + q13.1)).toNat ((q13.2.1 242 (((4 * q11.1) + q13.1)).toNat) + 1))) else none)) else none)) else none) else none
def gm_205_2 : Nat → Int → Int → gx_S → Option (gx_S)
  | 0, _, _, _ => none
  | n + 1, x1, x2, s =>
    if (-2147483648 ≤ x2 ∧ x2 ≤ 2147483647) then (
    if 32 ≤ x2 then (
      gm_205_23 100000 x1 0 s) else (
      if 0 ≤ x2 ∧ x2 < 32 then (
      gm_205_2 n x1 (x2 + 1) (gw1 s 242 (x2).toNat 0)) else none)) else none
def gm_205 (x1 : Int) (s : gx_S) : Option (gx_S) :=
  gm_205_2 100000 x1 0 s
/-! ZoneSharesModel.weighs(I)I -/
def gm_206_4 : Nat → Int → Int → Int → gx_S → Option (Int × gx_S)
  | 0, _, _, _, _ => none
  | n + 1, x1, x2, x3, s =>
    if (-2147483648 ≤ x3 ∧ x3 ≤ 2147483647) then (
    if 4 ≤ x3 then (
      some (x2, s)) else (
      if 0 ≤ x3 ∧ x3 < 4 then (
      if 0 ≤ ((4 * x1) + x3) ∧ ((4 * x1) + x3) < 32 then (
      gm_206_4 n x1 (x2 + ((s.1 243 (x3).toNat) * (s.1 242 (((4 * x1) + x3)).toNat))) (x3 + 1) s) else none) else none)) else none
def gm_206 (x1 : Int) (s : gx_S) : Option (Int × gx_S) :=
  gm_206_4 100000 x1 0 0 s
/-! ZoneSharesModel.landCells(I)I -/
def gm_207_4 : Nat → Int → Int → Int → gx_S → Option (Int × gx_S)
  | 0, _, _, _, _ => none
  | n + 1, x1, x2, x3, s =>
    if (-2147483648 ≤ x3 ∧ x3 ≤ 2147483647) then (
    if 8 ≤ x3 then (
      some (x2, s)) else (
      if 0 ≤ ((4 * x3) + x1) ∧ ((4 * x3) + x1) < 32 then (
      gm_207_4 n x1 (x2 + (s.1 242 (((4 * x3) + x1)).toNat)) (x3 + 1) s) else none)) else none
def gm_207 (x1 : Int) (s : gx_S) : Option (Int × gx_S) :=
  gm_207_4 100000 x1 0 0 s
/-! ZoneSharesModel.isOldCounted(I)Z -/
def gm_208_4 : Nat → Int → Int → Int → gx_S → Option (Bool × gx_S)
  | 0, _, _, _, _ => none
  | n + 1, x1, x2, x3, s =>
    if (-2147483648 ≤ x3 ∧ x3 ≤ 2147483647) then (
    if 4 ≤ x3 then (
      if (-2147483648 ≤ x2 ∧ x2 ≤ 2147483647) then (
      if x2 ≤ 0 then (
        some (false, s)) else (
        some (true, s))) else none) else (
      if 0 ≤ ((4 * x1) + x3) ∧ ((4 * x1) + x3) < 32 then (
      gm_208_4 n x1 (x2 + (s.1 242 (((4 * x1) + x3)).toNat)) (x3 + 1) s) else none)) else none
def gm_208 (x1 : Int) (s : gx_S) : Option (Bool × gx_S) :=
  gm_208_4 100000 x1 0 0 s
/-! ZoneSharesModel.laysMisfit(I)Z -/
def gm_209_93 (k_41 : Int → Int → Int → gx_S → Option (Bool × gx_S)) (x1 : Int) (x2 : Int) (x4 : Int) (s : gx_S) : Option (Bool × gx_S) :=
  k_41 x1 x2 (x4 + 1) s
def gm_209_41 : Nat → Int → Int → Int → gx_S → Option (Bool × gx_S)
  | 0, _, _, _, _ => none
  | n + 1, x1, x2, x4, s =>
    if (-2147483648 ≤ x4 ∧ x4 ≤ 2147483647) then (
    if 8 ≤ x4 then (
      if (-9223372036854775808 ≤ x2 ∧ x2 ≤ 9223372036854775807) then (
      if x2 ≤ 0 then (
        some (false, s)) else (
        some (true, s))) else none) else (
      (gm_208 x4 s).bind fun q6 =>
      if (gb q6.1) = 0 then (
        gm_209_93 (gm_209_41 n) x1 x2 x4 q6.2) else (
        (gm_155 x1 x4 q6.2).bind fun q9 =>
        if (-2147483648 ≤ q9.1 ∧ q9.1 ≤ 2147483647) then (
        if (-2147483648 ≤ (q9.2.1 215 42) ∧ (q9.2.1 215 42) ≤ 2147483647) then (
        (gm_206 x4 q9.2).bind fun q13 =>
        if (-2147483648 ≤ q13.1 ∧ q13.1 ≤ 2147483647) then (
        if (-9223372036854775808 ≤ ((q9.1 * x2) - ((q9.2.1 215 42) * q13.1)) ∧ ((q9.1 * x2) - ((q9.2.1 215 42) * q13.1)) ≤ 9223372036854775807) then (
        gm_209_93 (gm_209_41 n) x1 x2 x4 (gw2 q13.2 215 40 ((q6.2.2 215 40) + (if 0 < ((q9.1 * x2) - ((q9.2.1 215 42) * q13.1)) then ((q9.1 * x2) - ((q9.2.1 215 42) * q13.1)) else -((q9.1 * x2) - ((q9.2.1 215 42) * q13.1)))))) else none) else none) else none) else none))) else none
def gm_209_5 : Nat → Int → Int → Int → gx_S → Option (Bool × gx_S)
  | 0, _, _, _, _ => none
  | n + 1, x1, x2, x4, s =>
    if (-2147483648 ≤ x4 ∧ x4 ≤ 2147483647) then (
    if 8 ≤ x4 then (
      gm_209_41 100000 x1 x2 0 (gw2 (gw2 s 215 40 0) 215 41 x2)) else (
      (gm_206 x4 s).bind fun q4 =>
      if (-2147483648 ≤ q4.1 ∧ q4.1 ≤ 2147483647) then (
      gm_209_5 n x1 (x2 + q4.1) (x4 + 1) q4.2) else none)) else none
def gm_209 (x1 : Int) (s : gx_S) : Option (Bool × gx_S) :=
  gm_209_5 100000 x1 0 0 s
/-! ZoneSharesModel.misfit(II)J -/
def gm_210_24 (s : gx_S) : Option (Int × gx_S) :=
  some ((-1), s)
def gm_210_48 (s : gx_S) : Option (Int × gx_S) :=
  some ((-1), s)
def gm_210 (x1 : Int) (x2 : Int) (s : gx_S) : Option (Int × gx_S) :=
  (gm_150 s).bind fun q21 =>
  if (gb q21.1) = 0 then (
    gm_210_24 q21.2) else (
    (gm_148 x1 q21.2).bind fun q24 =>
    if (gb q24.1) = 0 then (
      gm_210_24 q24.2) else (
      if (-2147483648 ≤ x2 ∧ x2 ≤ 2147483647) then (
      (gm_130 x2 0 1 q24.2).bind fun q28 =>
      if ¬ (gb q28.1) = 0 then (
        (gm_205 x1 q28.2).bind fun q31 =>
        if (-2147483648 ≤ (q31.1 215 42) ∧ (q31.1 215 42) ≤ 2147483647) then (
        if (q31.1 215 42) = 0 then (
          gm_210_48 q31) else (
          (gm_209 x1 q31).bind fun q35 =>
          if ¬ (gb q35.1) = 0 then (
            (gm_194 (q35.2.2 215 40) (q35.2.2 215 41) x2 q35.2).bind fun q38 =>
            some (q38.1, q38.2)) else (
            gm_210_48 q35.2))) else none) else (
        gm_210_24 q28.2)) else none))
/-! ZoneSharesModel.isWeight(III)Z -/
def gm_213_40 (k_3 : Int → Int → Int → Int → gx_S → Option (Bool × gx_S)) (x1 : Int) (x2 : Int) (x3 : Int) (x4 : Int) (s : gx_S) : Option (Bool × gx_S) :=
  k_3 x1 x2 x3 (x4 + 1) s
def gm_213_20 (k_3 : Int → Int → Int → Int → gx_S → Option (Bool × gx_S)) (x1 : Int) (x2 : Int) (x3 : Int) (x4 : Int) (s : gx_S) : Option (Bool × gx_S) :=
  if 0 ≤ ((32 + (4 * x4)) + x2) ∧ ((32 + (4 * x4)) + x2) < 340 then (
  if (-2147483648 ≤ (s.1 216 (((32 + (4 * x4)) + x2)).toNat) ∧ (s.1 216 (((32 + (4 * x4)) + x2)).toNat) ≤ 2147483647) then (
  if (-2147483648 ≤ x3 ∧ x3 ≤ 2147483647) then (
  if (s.1 216 (((32 + (4 * x4)) + x2)).toNat) = x3 then (
    gm_213_40 k_3 x1 x2 x3 x4 s) else (
    some (false, s))) else none) else none) else none
def gm_213_3 : Nat → Int → Int → Int → Int → gx_S → Option (Bool × gx_S)
  | 0, _, _, _, _, _ => none
  | n + 1, x1, x2, x3, x4, s =>
    if (-2147483648 ≤ x4 ∧ x4 ≤ 2147483647) then (
    if 3 ≤ x4 then (
      some (true, s)) else (
      if (-2147483648 ≤ x1 ∧ x1 ≤ 2147483647) then (
      if x1 = (-1) then (
        gm_213_20 (gm_213_3 n) x1 x2 x3 x4 s) else (
        if ¬ x1 = x4 then (
          gm_213_40 (gm_213_3 n) x1 x2 x3 x4 s) else (
          gm_213_20 (gm_213_3 n) x1 x2 x3 x4 s))) else none)) else none
def gm_213 (x1 : Int) (x2 : Int) (x3 : Int) (s : gx_S) : Option (Bool × gx_S) :=
  gm_213_3 100000 x1 x2 x3 0 s
/-! ZoneSharesModel.weigh(III)I -/
def gm_214_111 (k_79 : Int → Int → Int → Int → Int → gx_S → Option (Int × gx_S)) (x1 : Int) (x2 : Int) (x3 : Int) (x4 : Int) (x5 : Int) (s : gx_S) : Option (Int × gx_S) :=
  k_79 x1 x2 x3 x4 (x5 + 1) s
def gm_214_96 (k_79 : Int → Int → Int → Int → Int → gx_S → Option (Int × gx_S)) (x1 : Int) (x2 : Int) (x3 : Int) (x4 : Int) (x5 : Int) (s : gx_S) : Option (Int × gx_S) :=
  if 0 ≤ ((32 + (4 * x5)) + x2) ∧ ((32 + (4 * x5)) + x2) < 340 then (
  gm_214_111 k_79 x1 x2 x3 x4 x5 (gw1 s 216 (((32 + (4 * x5)) + x2)).toNat x3)) else none
def gm_214_79 : Nat → Int → Int → Int → Int → Int → gx_S → Option (Int × gx_S)
  | 0, _, _, _, _, _, _ => none
  | n + 1, x1, x2, x3, x4, x5, s =>
    if (-2147483648 ≤ x5 ∧ x5 ≤ 2147483647) then (
    if 3 ≤ x5 then (
      some (x4, s)) else (
      if (-2147483648 ≤ x1 ∧ x1 ≤ 2147483647) then (
      if x1 = (-1) then (
        gm_214_96 (gm_214_79 n) x1 x2 x3 x4 x5 s) else (
        if ¬ x1 = x5 then (
          gm_214_111 (gm_214_79 n) x1 x2 x3 x4 x5 s) else (
          gm_214_96 (gm_214_79 n) x1 x2 x3 x4 x5 s))) else none)) else none
def gm_214 (x1 : Int) (x2 : Int) (x3 : Int) (s : gx_S) : Option (Int × gx_S) :=
  if (-2147483648 ≤ x1 ∧ x1 ≤ 2147483647) then (
  (gm_130 x1 (-1) 2 s).bind fun q31 =>
  if (gb q31.1) = 0 then (
    some ((-1), q31.2)) else (
    if (-2147483648 ≤ x2 ∧ x2 ≤ 2147483647) then (
    (gm_130 x2 0 3 q31.2).bind fun q35 =>
    if (gb q35.1) = 0 then (
      some ((-1), q35.2)) else (
      if (-2147483648 ≤ x3 ∧ x3 ≤ 2147483647) then (
      (gm_130 x3 0 9 q35.2).bind fun q39 =>
      if ¬ (gb q39.1) = 0 then (
        (gm_213 x1 x2 x3 q39.2).bind fun q42 =>
        if (gb q42.1) = 0 then (
          (gm_132 q42.2).bind fun q45 =>
          if 0 ≤ ((32 + (4 * (if 0 < x1 then x1 else 0))) + x2) ∧ ((32 + (4 * (if 0 < x1 then x1 else 0))) + x2) < 340 then (
          gm_214_79 100000 x1 x2 x3 (q45.1 216 (((32 + (4 * (if 0 < x1 then x1 else 0))) + x2)).toNat) 0 q45) else none) else (
          some ((-2), q42.2))) else (
        some ((-1), q39.2))) else none)) else none)) else none
/-! ZoneSharesModel.settle(II)I -/
def gm_215 (x1 : Int) (x2 : Int) (s : gx_S) : Option (Int × gx_S) :=
  if (-2147483648 ≤ x1 ∧ x1 ≤ 2147483647) then (
  (gm_130 x1 0 1 s).bind fun q20 =>
  if (gb q20.1) = 0 then (
    some ((-1), q20.2)) else (
    if (-2147483648 ≤ x2 ∧ x2 ≤ 2147483647) then (
    (gm_130 x2 0 1 q20.2).bind fun q24 =>
    if ¬ (gb q24.1) = 0 then (
      if 0 ≤ (3 + x1) ∧ (3 + x1) < 340 then (
      if (-2147483648 ≤ (q24.2.1 216 ((3 + x1)).toNat) ∧ (q24.2.1 216 ((3 + x1)).toNat) ≤ 2147483647) then (
      if ¬ (q24.2.1 216 ((3 + x1)).toNat) = x2 then (
        (gm_132 q24.2).bind fun q32 =>
        some ((q24.2.1 216 ((3 + x1)).toNat), (gw1 q32 216 ((3 + x1)).toNat x2))) else (
        some ((-2), q24.2))) else none) else none) else (
      some ((-1), q24.2))) else none)) else none
/-! ZoneSharesModel.district(II)I -/
def gm_216 (x1 : Int) (x2 : Int) (s : gx_S) : Option (Int × gx_S) :=
  if (-2147483648 ≤ x1 ∧ x1 ≤ 2147483647) then (
  (gm_130 x1 0 7 s).bind fun q20 =>
  if (gb q20.1) = 0 then (
    some ((-1), q20.2)) else (
    if (-2147483648 ≤ x2 ∧ x2 ≤ 2147483647) then (
    (gm_130 x2 0 3 q20.2).bind fun q24 =>
    if ¬ (gb q24.1) = 0 then (
      if 0 ≤ (44 + x1) ∧ (44 + x1) < 340 then (
      if (-2147483648 ≤ (q24.2.1 216 ((44 + x1)).toNat) ∧ (q24.2.1 216 ((44 + x1)).toNat) ≤ 2147483647) then (
      if ¬ (q24.2.1 216 ((44 + x1)).toNat) = x2 then (
        (gm_132 q24.2).bind fun q32 =>
        some ((q24.2.1 216 ((44 + x1)).toNat), (gw1 q32 216 ((44 + x1)).toNat x2))) else (
        some ((-2), q24.2))) else none) else none) else (
      some ((-1), q24.2))) else none)) else none
/-! ZoneSharesModel.cell(III)I -/
def gm_218 (x1 : Int) (x2 : Int) (x3 : Int) (s : gx_S) : Option (Int × gx_S) :=
  if (-2147483648 ≤ x1 ∧ x1 ≤ 2147483647) then (
  (gm_130 x1 0 2 s).bind fun q19 =>
  if (gb q19.1) = 0 then (
    some ((-1), q19.2)) else (
    (gm_144 x1 q19.2).bind fun q22 =>
    if (gb q22.1) = 0 then (
      some ((-1), q22.2)) else (
      (gm_198 x2 x3 q22.2).bind fun q25 =>
      if ¬ (gb q25.1) = 0 then (
        if 0 ≤ (((52 + (96 * x1)) + (12 * x2)) + x3) ∧ (((52 + (96 * x1)) + (12 * x2)) + x3) < 340 then (
        if ¬ x1 = 2 then (
          if (-2147483648 ≤ (q25.2.1 216 ((((52 + (96 * x1)) + (12 * x2)) + x3)).toNat) ∧ (q25.2.1 216 ((((52 + (96 * x1)) + (12 * x2)) + x3)).toNat) ≤ 2147483647) then (
          if ¬ (q25.2.1 216 ((((52 + (96 * x1)) + (12 * x2)) + x3)).toNat) = 8 then (
            some ((97 + (q25.2.1 216 ((((52 + (96 * x1)) + (12 * x2)) + x3)).toNat)), q25.2)) else (
            some (46, q25.2))) else none) else (
          some ((48 + (q25.2.1 216 ((((52 + (96 * x1)) + (12 * x2)) + x3)).toNat)), q25.2))) else none) else (
        some ((-1), q25.2))))) else none
/-! ZoneSharesModel.pieceCells(III)I -/
def gm_219_55 (k_6 : Int → Int → Int → Int → Int → gx_S → Option (Int × gx_S)) (x1 : Int) (x2 : Int) (x3 : Int) (x5 : Int) (s0 : Int) (s1 : Int) (s : gx_S) : Option (Int × gx_S) :=
  (gm_131 s1 s).bind fun q2 =>
  k_6 x1 x2 x3 (s0 + q2.1) (x5 + 1) q2.2
def gm_219_6 : Nat → Int → Int → Int → Int → Int → gx_S → Option (Int × gx_S)
  | 0, _, _, _, _, _, _ => none
  | n + 1, x1, x2, x3, x4, x5, s =>
    (gm_151 s).bind fun q2 =>
    if (-2147483648 ≤ x5 ∧ x5 ≤ 2147483647) then (
    if (-2147483648 ≤ q2.1 ∧ q2.1 ≤ 2147483647) then (
    if q2.1 ≤ x5 then (
      some (x4, q2.2)) else (
      (gm_152 0 x5 q2.2).bind fun q7 =>
      if (-2147483648 ≤ q7.1 ∧ q7.1 ≤ 2147483647) then (
      if (-2147483648 ≤ x1 ∧ x1 ≤ 2147483647) then (
      if ¬ q7.1 = x1 then (
        gm_219_55 (gm_219_6 n) x1 x2 x3 x5 x4 0 q7.2) else (
        (gm_152 1 x5 q7.2).bind fun q12 =>
        if (-2147483648 ≤ q12.1 ∧ q12.1 ≤ 2147483647) then (
        if (-2147483648 ≤ x2 ∧ x2 ≤ 2147483647) then (
        if ¬ q12.1 = x2 then (
          gm_219_55 (gm_219_6 n) x1 x2 x3 x5 x4 0 q12.2) else (
          (gm_152 2 x5 q12.2).bind fun q17 =>
          if (-2147483648 ≤ q17.1 ∧ q17.1 ≤ 2147483647) then (
          if (-2147483648 ≤ x3 ∧ x3 ≤ 2147483647) then (
          if ¬ q17.1 = x3 then (
            gm_219_55 (gm_219_6 n) x1 x2 x3 x5 x4 0 q17.2) else (
            gm_219_55 (gm_219_6 n) x1 x2 x3 x5 x4 1 q17.2)) else none) else none)) else none) else none)) else none) else none)) else none) else none
def gm_219 (x1 : Int) (x2 : Int) (x3 : Int) (s : gx_S) : Option (Int × gx_S) :=
  gm_219_6 100000 x1 x2 x3 0 0 s
/-! ZoneSharesModel.piece(II)I -/
def gm_220_124 (k_31 : Int → Int → Int → Int → gx_S → Option (Int × gx_S)) (x1 : Int) (x2 : Int) (x4 : Int) (s0 : Int) (s1 : Int) (s : gx_S) : Option (Int × gx_S) :=
  (gm_131 s1 s).bind fun q2 =>
  k_31 x1 x2 (s0 + q2.1) (x4 + 1) q2.2
def gm_220_113 (k_31 : Int → Int → Int → Int → gx_S → Option (Int × gx_S)) (x1 : Int) (x2 : Int) (x3 : Int) (x4 : Int) (x7 : Int) (s : gx_S) : Option (Int × gx_S) :=
  if (-2147483648 ≤ x7 ∧ x7 ≤ 2147483647) then (
  if x7 ≤ 0 then (
    gm_220_124 k_31 x1 x2 x4 x3 0 s) else (
    gm_220_124 k_31 x1 x2 x4 x3 1 s)) else none
def gm_220_31 : Nat → Int → Int → Int → Int → gx_S → Option (Int × gx_S)
  | 0, _, _, _, _, _ => none
  | n + 1, x1, x2, x3, x4, s =>
    if (-2147483648 ≤ x4 ∧ x4 ≤ 2147483647) then (
    if 288 ≤ x4 then (
      if (-2147483648 ≤ x1 ∧ x1 ≤ 2147483647) then (
      if ¬ x1 = (-1) then (
        some ((-1), s)) else (
        some (x3, s))) else none) else (
      if 0 ≤ x4 ∧ x4 ≤ 2147483647 then (
      if 0 ≤ (x4 / 4) ∧ (x4 / 4) ≤ 2147483647 then (
      (gm_219 (x4 / 36) ((x4 / 4) % 9) (x4 % 4) s).bind fun q8 =>
      if (-2147483648 ≤ q8.1 ∧ q8.1 ≤ 2147483647) then (
      if q8.1 ≤ 0 then (
        gm_220_113 (gm_220_31 n) x1 x2 x3 x4 q8.1 q8.2) else (
        if (-2147483648 ≤ x3 ∧ x3 ≤ 2147483647) then (
        if (-2147483648 ≤ x1 ∧ x1 ≤ 2147483647) then (
        if ¬ x3 = x1 then (
          gm_220_113 (gm_220_31 n) x1 x2 x3 x4 q8.1 q8.2) else (
          if (-2147483648 ≤ x2 ∧ x2 ≤ 2147483647) then (
          if ¬ x2 = 0 then (
            if ¬ x2 = 1 then (
              if ¬ x2 = 2 then (
                some (q8.1, q8.2)) else (
                some ((x4 % 4), q8.2))) else (
              some (((x4 / 4) % 9), q8.2))) else (
            some ((x4 / 36), q8.2))) else none)) else none) else none)) else none) else none) else none)) else none
def gm_220 (x1 : Int) (x2 : Int) (s : gx_S) : Option (Int × gx_S) :=
  (gm_150 s).bind fun q49 =>
  if (gb q49.1) = 0 then (
    some ((-1), q49.2)) else (
    if (-2147483648 ≤ x1 ∧ x1 ≤ 2147483647) then (
    if x1 < (-1) then (
      some ((-1), q49.2)) else (
      if (-2147483648 ≤ x2 ∧ x2 ≤ 2147483647) then (
      (gm_130 x2 0 3 q49.2).bind fun q55 =>
      if ¬ (gb q55.1) = 0 then (
        gm_220_31 100000 x1 x2 0 0 q55.2) else (
        some ((-1), q55.2))) else none)) else none)
/-! ZoneSharesModel.newSet(I)I -/
def gm_221_35 (k_4 : Int → Int → Int → gx_S → Option (Int × gx_S)) (x1 : Int) (x3 : Int) (s0 : Int) (s1 : Int) (s : gx_S) : Option (Int × gx_S) :=
  k_4 x1 (((Int32.ofInt s0 ||| Int32.ofInt s1)).toInt) (x3 + 1) s
def gm_221_4 : Nat → Int → Int → Int → gx_S → Option (Int × gx_S)
  | 0, _, _, _, _ => none
  | n + 1, x1, x2, x3, s =>
    (gm_151 s).bind fun q2 =>
    if (-2147483648 ≤ x3 ∧ x3 ≤ 2147483647) then (
    if (-2147483648 ≤ q2.1 ∧ q2.1 ≤ 2147483647) then (
    if q2.1 ≤ x3 then (
      some (x2, q2.2)) else (
      (gm_152 0 x3 q2.2).bind fun q7 =>
      if (-2147483648 ≤ q7.1 ∧ q7.1 ≤ 2147483647) then (
      if (-2147483648 ≤ x1 ∧ x1 ≤ 2147483647) then (
      if ¬ q7.1 = x1 then (
        gm_221_35 (gm_221_4 n) x1 x3 x2 0 q7.2) else (
        (gm_152 1 x3 q7.2).bind fun q12 =>
        gm_221_35 (gm_221_4 n) x1 x3 x2 (((Int32.ofInt 1 <<< (Int32.ofInt q12.1 &&& 31))).toInt) q12.2)) else none) else none)) else none) else none
def gm_221 (x1 : Int) (s : gx_S) : Option (Int × gx_S) :=
  gm_221_4 100000 x1 0 0 s
/-! ZoneSharesModel.asideAll()I -/
def gm_225_30 (x1 : Int) (s : gx_S) : Option (Int × gx_S) :=
  some (x1, s)
def gm_225_4 : Nat → Int → Int → gx_S → Option (Int × gx_S)
  | 0, _, _, _ => none
  | n + 1, x1, x2, s =>
    if (-2147483648 ≤ x2 ∧ x2 ≤ 2147483647) then (
    if 3 ≤ x2 then (
      gm_225_30 x1 s) else (
      (gm_150 s).bind fun q4 =>
      if (gb q4.1) = 0 then (
        gm_225_30 x1 q4.2) else (
        (gm_176 x2 q4.2).bind fun q7 =>
        gm_225_4 n (x1 + q7.1) (x2 + 1) q7.2))) else none
def gm_225 (s : gx_S) : Option (Int × gx_S) :=
  gm_225_4 100000 0 0 s
/-! ZoneSharesModel.weight(II)I -/
def gm_227 (x1 : Int) (x2 : Int) (s : gx_S) : Option (Int × gx_S) :=
  (gm_148 x1 s).bind fun q12 =>
  if (gb q12.1) = 0 then (
    some ((-1), q12.2)) else (
    if (-2147483648 ≤ x2 ∧ x2 ≤ 2147483647) then (
    (gm_130 x2 0 3 q12.2).bind fun q16 =>
    if (gb q16.1) = 0 then (
      some ((-1), q16.2)) else (
      if 0 ≤ ((32 + (4 * x1)) + x2) ∧ ((32 + (4 * x1)) + x2) < 340 then (
      some ((q16.2.1 216 (((32 + (4 * x1)) + x2)).toNat), q16.2)) else none)) else none)
