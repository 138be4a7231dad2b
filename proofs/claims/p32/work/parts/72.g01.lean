/-! ZoneSharesModel.in(JJJ)Z -/
def gm_130 (x0 : Int) (x2 : Int) (x4 : Int) (s : gx_S) : Option (Bool × gx_S) :=
  if (-9223372036854775808 ≤ x0 ∧ x0 ≤ 9223372036854775807) then (
  if (-9223372036854775808 ≤ x2 ∧ x2 ≤ 9223372036854775807) then (
  if x0 < x2 then (
    some (false, s)) else (
    if (-9223372036854775808 ≤ x4 ∧ x4 ≤ 9223372036854775807) then (
    if x4 < x0 then (
      some (false, s)) else (
      some (true, s))) else none)) else none) else none
/-! ZoneSharesModel.truth(Z)I -/
def gm_131 (x0 : Int) (s : gx_S) : Option (Int × gx_S) :=
  if (-2147483648 ≤ x0 ∧ x0 ≤ 2147483647) then (
  if x0 = 0 then (
    some (0, s)) else (
    some (1, s))) else none
/-! ZoneSharesModel.remembers()V -/
def gm_132_54 : Nat → Int → gx_S → Option (gx_S)
  | 0, _, _ => none
  | n + 1, x1, s =>
    if (-2147483648 ≤ x1 ∧ x1 ≤ 2147483647) then (
    if 340 ≤ x1 then (
      some (gw1 s 215 2 ((s.1 215 2) + 1))) else (
      if 0 ≤ x1 ∧ x1 < 340 then (
      if 0 ≤ ((340 * (s.1 215 2)) + x1) ∧ ((340 * (s.1 215 2)) + x1) < 2720 then (
      gm_132_54 n (x1 + 1) (gw1 s 217 (((340 * (s.1 215 2)) + x1)).toNat (s.1 216 (x1).toNat))) else none) else none)) else none
def gm_132_52 (s : gx_S) : Option (gx_S) :=
  gm_132_54 100000 0 s
def gm_132_13 : Nat → Int → gx_S → Option (gx_S)
  | 0, _, _ => none
  | n + 1, x1, s =>
    if (-2147483648 ≤ x1 ∧ x1 ≤ 2147483647) then (
    if 2720 ≤ x1 then (
      gm_132_52 (gw1 s 215 2 ((s.1 215 2) - 1))) else (
      if 0 ≤ x1 ∧ x1 < 2720 then (
      if 0 ≤ (x1 - 340) ∧ (x1 - 340) < 2720 then (
      gm_132_13 n (x1 + 1) (gw1 s 217 ((x1 - 340)).toNat (s.1 217 (x1).toNat))) else none) else none)) else none
def gm_132 (s : gx_S) : Option (gx_S) :=
  if (-2147483648 ≤ (s.1 215 2) ∧ (s.1 215 2) ≤ 2147483647) then (
  if ¬ (s.1 215 2) = 8 then (
    gm_132_52 s) else (
    gm_132_13 100000 340 s)) else none
/-! ZoneSharesModel.undo()I -/
def gm_133_21 : Nat → Int → gx_S → Option (Int × gx_S)
  | 0, _, _ => none
  | n + 1, x1, s =>
    if (-2147483648 ≤ x1 ∧ x1 ≤ 2147483647) then (
    if 340 ≤ x1 then (
      some ((s.1 215 2), s)) else (
      if 0 ≤ ((340 * (s.1 215 2)) + x1) ∧ ((340 * (s.1 215 2)) + x1) < 2720 then (
      if 0 ≤ x1 ∧ x1 < 340 then (
      gm_133_21 n (x1 + 1) (gw1 s 216 (x1).toNat (s.1 217 (((340 * (s.1 215 2)) + x1)).toNat))) else none) else none)) else none
def gm_133 (s : gx_S) : Option (Int × gx_S) :=
  if (-2147483648 ≤ (s.1 215 2) ∧ (s.1 215 2) ≤ 2147483647) then (
  if ¬ (s.1 215 2) = 0 then (
    gm_133_21 100000 0 (gw1 s 215 2 ((s.1 215 2) - 1))) else (
    some ((-1), s))) else none
/-! ZoneSharesModel.puts(I)V -/
def gm_135_3 : Nat → Int → Int → gx_S → Option (gx_S)
  | 0, _, _, _ => none
  | n + 1, x1, x2, s =>
    if (-2147483648 ≤ x2 ∧ x2 ≤ 2147483647) then (
    if x2 < 0 then (
      some s) else (
      if 0 ≤ (s.1 215 4) ∧ (s.1 215 4) < 200 then (
      gm_135_3 n x1 (x2 + (-8)) (gw1 (gw1 s 218 ((s.1 215 4)).toNat (gn3 (((Int32.ofInt (((Int32.ofInt x1 >>> (Int32.ofInt x2 &&& 31))).toInt)).toInt8.toInt32).toInt))) 215 4 (((gw1 s 218 ((s.1 215 4)).toNat (gn3 (((Int32.ofInt (((Int32.ofInt x1 >>> (Int32.ofInt x2 &&& 31))).toInt)).toInt8.toInt32).toInt))).1 215 4) + 1))) else none)) else none
def gm_135 (x1 : Int) (s : gx_S) : Option (gx_S) :=
  gm_135_3 100000 x1 24 s
/-! ZoneSharesModel.end(I)I -/
def gm_136 (x1 : Int) (s : gx_S) : Option (Int × gx_S) :=
  if (-2147483648 ≤ x1 ∧ x1 ≤ 2147483647) then (
  if x1 < 0 then (
    some ((-1), s)) else (
    if (-2147483648 ≤ (s.1 215 4) ∧ (s.1 215 4) ≤ 2147483647) then (
    if x1 ≤ (s.1 215 4) then (
      some (x1, (gw1 s 215 4 x1))) else (
      some ((-1), s))) else none)) else none
/-! ZoneSharesModel.sign()I -/
def gm_137 (s : gx_S) : Option (Int × gx_S) :=
  if (-2147483648 ≤ (s.1 215 5) ∧ (s.1 215 5) ≤ 2147483647) then (
  if (-2147483648 ≤ (s.1 215 4) ∧ (s.1 215 4) ≤ 2147483647) then (
  if (s.1 215 4) ≤ (s.1 215 5) then (
    some ((-1), s)) else (
    if 0 ≤ (s.1 215 5) ∧ (s.1 215 5) < 200 then (
    some (((Int32.ofInt (s.1 218 ((s.1 215 5)).toNat) &&& Int32.ofInt 255)).toInt, s)) else none)) else none) else none
/-! ZoneSharesModel.isRight()Z -/
def gm_138 (s : gx_S) : Option (Bool × gx_S) :=
  if (-2147483648 ≤ (s.1 215 6) ∧ (s.1 215 6) ≤ 2147483647) then (
  if ¬ (s.1 215 6) = (-1) then (
    some (false, s)) else (
    some (true, s))) else none
/-! ZoneSharesModel.fails(II)V -/
def gm_139 (x1 : Int) (x2 : Int) (s : gx_S) : Option (gx_S) :=
  (gm_138 s).bind fun q5 =>
  if (gb q5.1) = 0 then (
    some q5.2) else (
    some (gw1 q5.2 215 6 ((8 * x2) + x1)))
/-! ZoneSharesModel.isSign(II)Z -/
def gm_140 (x0 : Int) (x1 : Int) (s : gx_S) : Option (Bool × gx_S) :=
  if (-2147483648 ≤ x0 ∧ x0 ≤ 2147483647) then (
  if ¬ x0 = 2 then (
    if (-2147483648 ≤ x1 ∧ x1 ≤ 2147483647) then (
    (gm_130 x1 97 104 s).bind fun q15 =>
    if ¬ (gb q15.1) = 0 then (
      some (true, q15.2)) else (
      if ¬ x1 = 46 then (
        some (false, q15.2)) else (
        some (true, q15.2)))) else none) else (
    if (-2147483648 ≤ x1 ∧ x1 ≤ 2147483647) then (
    (gm_130 x1 48 51 s).bind fun q20 =>
    some (q20.1, q20.2)) else none)) else none
/-! ZoneSharesModel.codeOf(II)I -/
def gm_141 (x0 : Int) (x1 : Int) (s : gx_S) : Option (Int × gx_S) :=
  if (-2147483648 ≤ x0 ∧ x0 ≤ 2147483647) then (
  if ¬ x0 = 2 then (
    if (-2147483648 ≤ x1 ∧ x1 ≤ 2147483647) then (
    if ¬ x1 = 46 then (
      some ((x1 - 97), s)) else (
      some (8, s))) else none) else (
    some ((x1 - 48), s))) else none
/-! ZoneSharesModel.readsRow(II)V -/
def gm_142_168 (x4 : Int) (s : gx_S) : Option (gx_S) :=
  some (gw1 (gw1 s 215 9 x4) 215 8 (((gw1 s 215 9 x4).1 215 8) + 1))
def gm_142_138 (x4 : Int) (s1 : Int) (s : gx_S) : Option (gx_S) :=
  (gm_139 s1 (s.1 215 5) s).bind fun q2 =>
  gm_142_168 x4 q2
def gm_142_114 (x1 : Int) (x2 : Int) (x4 : Int) (s0 : Int) (s : gx_S) : Option (gx_S) :=
  if (-2147483648 ≤ s0 ∧ s0 ≤ 2147483647) then (
  if ¬ s0 = 0 then (
    if (-2147483648 ≤ x2 ∧ x2 ≤ 2147483647) then (
    if x2 = (-1) then (
      gm_142_168 x4 s) else (
      if (-2147483648 ≤ x4 ∧ x4 ≤ 2147483647) then (
      if x2 ≤ x4 then (
        gm_142_168 x4 s) else (
        (gm_139 2 (s.1 215 5) s).bind fun q8 =>
        gm_142_168 x4 q8)) else none)) else none) else (
    (gm_137 s).bind fun q10 =>
    (gm_140 x1 q10.1 q10.2).bind fun q12 =>
    if (gb q12.1) = 0 then (
      gm_142_138 x4 1 q12.2) else (
      gm_142_138 x4 3 q12.2))) else none
def gm_142_92 (x1 : Int) (x2 : Int) (x4 : Int) (s : gx_S) : Option (gx_S) :=
  (gm_137 s).bind fun q2 =>
  if (-2147483648 ≤ q2.1 ∧ q2.1 ≤ 2147483647) then (
  if q2.1 = 47 then (
    gm_142_114 x1 x2 x4 1 q2.2) else (
    (gm_137 q2.2).bind fun q6 =>
    if (-2147483648 ≤ q6.1 ∧ q6.1 ≤ 2147483647) then (
    if ¬ q6.1 = (-1) then (
      gm_142_114 x1 x2 x4 0 q6.2) else (
      gm_142_114 x1 x2 x4 1 q6.2)) else none)) else none
def gm_142_36 : Nat → Int → Int → Int → Int → gx_S → Option (gx_S)
  | 0, _, _, _, _, _ => none
  | n + 1, x1, x2, x3, x4, s =>
    if (-2147483648 ≤ x4 ∧ x4 ≤ 2147483647) then (
    if (-2147483648 ≤ x3 ∧ x3 ≤ 2147483647) then (
    if x3 ≤ x4 then (
      gm_142_92 x1 x2 x4 s) else (
      (gm_137 s).bind fun q5 =>
      (gm_140 x1 q5.1 q5.2).bind fun q7 =>
      if (gb q7.1) = 0 then (
        gm_142_92 x1 x2 x4 q7.2) else (
        (gm_137 q7.2).bind fun q10 =>
        (gm_141 x1 q10.1 q10.2).bind fun q12 =>
        if 0 ≤ ((12 * (q7.2.1 215 8)) + x4) ∧ ((12 * (q7.2.1 215 8)) + x4) < 96 then (
        gm_142_36 n x1 x2 x3 (x4 + 1) (gw1 (gw1 q12.2 219 (((12 * (q7.2.1 215 8)) + x4)).toNat q12.1) 215 5 (((gw1 q12.2 219 (((12 * (q7.2.1 215 8)) + x4)).toNat q12.1).1 215 5) + 1))) else none))) else none) else none
def gm_142_32 (x1 : Int) (x2 : Int) (s0 : Int) (s : gx_S) : Option (gx_S) :=
  gm_142_36 100000 x1 x2 s0 0 s
def gm_142 (x1 : Int) (x2 : Int) (s : gx_S) : Option (gx_S) :=
  (gm_137 s).bind fun q49 =>
  (gm_140 x1 q49.1 q49.2).bind fun q51 =>
  if ¬ (gb q51.1) = 0 then (
    if (-2147483648 ≤ x2 ∧ x2 ≤ 2147483647) then (
    if ¬ x2 = (-1) then (
      gm_142_32 x1 x2 x2 q51.2) else (
      gm_142_32 x1 x2 12 q51.2)) else none) else (
    (gm_139 1 (q51.2.1 215 5) q51.2).bind fun q56 =>
    some q56)
/-! ZoneSharesModel.readsLayer(I)V -/
def gm_143_112 (x1 : Int) (x2 : Int) (s : gx_S) : Option (gx_S) :=
  (gm_138 s).bind fun q2 =>
  if (gb q2.1) = 0 then (
    some q2.2) else (
    if (-2147483648 ≤ x1 ∧ x1 ≤ 2147483647) then (
    if x1 = 0 then (
      some q2.2) else (
      if (-2147483648 ≤ (q2.2.1 215 8) ∧ (q2.2.1 215 8) ≤ 2147483647) then (
      if (-2147483648 ≤ x2 ∧ x2 ≤ 2147483647) then (
      if x2 ≤ (q2.2.1 215 8) then (
        some q2.2) else (
        (gm_139 4 (q2.2.1 215 5) q2.2).bind fun q10 =>
        some q10)) else none) else none)) else none)
def gm_143_57 : Nat → Int → Int → Int → gx_S → Option (gx_S)
  | 0, _, _, _, _ => none
  | n + 1, x1, x2, x3, s =>
    (gm_138 s).bind fun q2 =>
    if (gb q2.1) = 0 then (
      gm_143_112 x1 x2 q2.2) else (
      (gm_137 q2.2).bind fun q5 =>
      if (-2147483648 ≤ q5.1 ∧ q5.1 ≤ 2147483647) then (
      if ¬ q5.1 = 47 then (
        gm_143_112 x1 x2 q5.2) else (
        if (-2147483648 ≤ (q5.2.1 215 8) ∧ (q5.2.1 215 8) ≤ 2147483647) then (
        if (-2147483648 ≤ x2 ∧ x2 ≤ 2147483647) then (
        if ¬ (q5.2.1 215 8) = x2 then (
          (gm_142 x1 x3 (gw1 q5.2 215 5 ((q5.2.1 215 5) + 1))).bind fun q12 =>
          gm_143_57 n x1 x2 x3 q12) else (
          (gm_139 3 (q5.2.1 215 5) q5.2).bind fun q14 =>
          gm_143_57 n x1 x2 x3 q14)) else none) else none)) else none)
def gm_143_45 (x1 : Int) (x2 : Int) (s0 : Int) (s : gx_S) : Option (gx_S) :=
  (gm_142 x1 s0 s).bind fun q2 =>
  gm_143_57 100000 x1 x2 (q2.1 215 9) q2
def gm_143_30 (x1 : Int) (s0 : Int) (s : gx_S) : Option (gx_S) :=
  if (-2147483648 ≤ x1 ∧ x1 ≤ 2147483647) then (
  if ¬ x1 = 0 then (
    gm_143_45 x1 s0 (s.1 216 1) s) else (
    gm_143_45 x1 s0 (-1) s)) else none
def gm_143 (x1 : Int) (s : gx_S) : Option (gx_S) :=
  if (-2147483648 ≤ x1 ∧ x1 ≤ 2147483647) then (
  if ¬ x1 = 0 then (
    gm_143_30 x1 ((gw1 (gw1 (gw1 s 215 5 0) 215 6 (-1)) 215 8 0).1 216 0) (gw1 (gw1 (gw1 s 215 5 0) 215 6 (-1)) 215 8 0)) else (
    gm_143_30 x1 8 (gw1 (gw1 (gw1 s 215 5 0) 215 6 (-1)) 215 8 0))) else none
/-! ZoneSharesModel.isTold(I)Z -/
def gm_144 (x1 : Int) (s : gx_S) : Option (Bool × gx_S) :=
  if (-2147483648 ≤ ((Int32.ofInt (((Int32.ofInt (s.1 216 2) >>> (Int32.ofInt x1 &&& 31))).toInt) &&& Int32.ofInt 1)).toInt ∧ ((Int32.ofInt (((Int32.ofInt (s.1 216 2) >>> (Int32.ofInt x1 &&& 31))).toInt) &&& Int32.ofInt 1)).toInt ≤ 2147483647) then (
  if ¬ ((Int32.ofInt (((Int32.ofInt (s.1 216 2) >>> (Int32.ofInt x1 &&& 31))).toInt) &&& Int32.ofInt 1)).toInt = 1 then (
    some (false, s)) else (
    some (true, s))) else none
/-! ZoneSharesModel.layer(I)I -/
def gm_145_126 : Nat → Int → Int → gx_S → Option (Int × gx_S)
  | 0, _, _, _ => none
  | n + 1, x1, x2, s =>
    if (-2147483648 ≤ x2 ∧ x2 ≤ 2147483647) then (
    if 96 ≤ x2 then (
      some (((s.1 216 0) * (s.1 216 1)), s)) else (
      if 0 ≤ x2 ∧ x2 < 96 then (
      if 0 ≤ ((52 + (96 * x1)) + x2) ∧ ((52 + (96 * x1)) + x2) < 340 then (
      gm_145_126 n x1 (x2 + 1) (gw1 s 216 (((52 + (96 * x1)) + x2)).toNat (s.1 219 (x2).toNat))) else none) else none)) else none
def gm_145_112 (x1 : Int) (s : gx_S) : Option (Int × gx_S) :=
  gm_145_126 100000 x1 0 (gw1 s 216 2 (((Int32.ofInt (s.1 216 2) ||| Int32.ofInt (((Int32.ofInt 1 <<< (Int32.ofInt x1 &&& 31))).toInt))).toInt))
def gm_145_85 (x1 : Int) (s : gx_S) : Option (Int × gx_S) :=
  gm_145_112 x1 (gw1 (gw1 (gw1 s 216 2 0) 216 0 ((gw1 s 216 2 0).1 215 8)) 216 1 ((gw1 (gw1 s 216 2 0) 216 0 ((gw1 s 216 2 0).1 215 8)).1 215 9))
def gm_145_26 (x1 : Int) (s : gx_S) : Option (Int × gx_S) :=
  (gm_143 x1 s).bind fun q2 =>
  (gm_138 (gw1 q2 215 4 0)).bind fun q4 =>
  if ¬ (gb q4.1) = 0 then (
    (gm_132 q4.2).bind fun q7 =>
    if (-2147483648 ≤ x1 ∧ x1 ≤ 2147483647) then (
    if ¬ x1 = 0 then (
      gm_145_112 x1 q7) else (
      if (-2147483648 ≤ (q7.1 215 8) ∧ (q7.1 215 8) ≤ 2147483647) then (
      if (-2147483648 ≤ (q7.1 216 0) ∧ (q7.1 216 0) ≤ 2147483647) then (
      if ¬ (q7.1 215 8) = (q7.1 216 0) then (
        gm_145_85 x1 q7) else (
        if (-2147483648 ≤ (q7.1 215 9) ∧ (q7.1 215 9) ≤ 2147483647) then (
        if (-2147483648 ≤ (q7.1 216 1) ∧ (q7.1 216 1) ≤ 2147483647) then (
        if (q7.1 215 9) = (q7.1 216 1) then (
          gm_145_112 x1 q7) else (
          gm_145_85 x1 q7)) else none) else none)) else none) else none)) else none) else (
    some (((-2) - (q4.2.1 215 6)), q4.2))
def gm_145 (x1 : Int) (s : gx_S) : Option (Int × gx_S) :=
  if (-2147483648 ≤ x1 ∧ x1 ≤ 2147483647) then (
  (gm_130 x1 0 2 s).bind fun q52 =>
  if (gb q52.1) = 0 then (
    some ((-1), q52.2)) else (
    if x1 = 0 then (
      gm_145_26 x1 q52.2) else (
      (gm_144 0 q52.2).bind fun q56 =>
      if ¬ (gb q56.1) = 0 then (
        gm_145_26 x1 q56.2) else (
        some ((-1), q56.2))))) else none
/-! ZoneSharesModel.readsPart()V -/
def gm_146_236 (x2 : Int) (x4 : Int) (s : gx_S) : Option (gx_S) :=
  if 0 ≤ x2 ∧ x2 < 9 then (
  some (gw1 (gw1 s 220 (x2).toNat x4) 215 11 (((Int32.ofInt ((gw1 s 220 (x2).toNat x4).1 215 11) ||| Int32.ofInt (((Int32.ofInt 1 <<< (Int32.ofInt x2 &&& 31))).toInt))).toInt))) else none
def gm_146_222 (x2 : Int) (x3 : Int) (x4 : Int) (s : gx_S) : Option (gx_S) :=
  if (-2147483648 ≤ x4 ∧ x4 ≤ 2147483647) then (
  if x4 ≤ 9999 then (
    gm_146_236 x2 x4 s) else (
    (gm_139 2 x3 s).bind fun q4 =>
    gm_146_236 x2 x4 q4)) else none
def gm_146_164 : Nat → Int → Int → Int → gx_S → Option (gx_S)
  | 0, _, _, _, _ => none
  | n + 1, x2, x3, x4, s =>
    (gm_138 s).bind fun q2 =>
    if (gb q2.1) = 0 then (
      gm_146_222 x2 x3 x4 q2.2) else (
      (gm_137 q2.2).bind fun q5 =>
      if (-2147483648 ≤ q5.1 ∧ q5.1 ≤ 2147483647) then (
      (gm_130 q5.1 48 57 q5.2).bind fun q8 =>
      if (gb q8.1) = 0 then (
        gm_146_222 x2 x3 x4 q8.2) else (
        (gm_137 q8.2).bind fun q11 =>
        if (-2147483648 ≤ (((10 * x4) + q11.1) - 48) ∧ (((10 * x4) + q11.1) - 48) ≤ 2147483647) then (
        gm_146_164 n x2 x3 (if (((10 * x4) + q11.1) - 48) < 10000 then (((10 * x4) + q11.1) - 48) else 10000) (gw1 q11.2 215 5 ((q11.2.1 215 5) + 1))) else none)) else none)
def gm_146_161 (x2 : Int) (x3 : Int) (s : gx_S) : Option (gx_S) :=
  gm_146_164 100000 x2 x3 0 s
def gm_146_113 (x2 : Int) (s : gx_S) : Option (gx_S) :=
  (gm_138 (gw1 s 215 5 ((s.1 215 5) + 1))).bind fun q2 =>
  if (gb q2.1) = 0 then (
    gm_146_161 x2 ((gw1 s 215 5 ((s.1 215 5) + 1)).1 215 5) q2.2) else (
    (gm_137 q2.2).bind fun q5 =>
    if (-2147483648 ≤ q5.1 ∧ q5.1 ≤ 2147483647) then (
    (gm_130 q5.1 48 57 q5.2).bind fun q8 =>
    if ¬ (gb q8.1) = 0 then (
      gm_146_161 x2 ((gw1 s 215 5 ((s.1 215 5) + 1)).1 215 5) q8.2) else (
      (gm_139 1 (q8.2.1 215 5) q8.2).bind fun q11 =>
      gm_146_161 x2 ((gw1 s 215 5 ((s.1 215 5) + 1)).1 215 5) q11)) else none)
def gm_146_78 (x2 : Int) (s : gx_S) : Option (gx_S) :=
  (gm_138 (gw1 s 215 5 ((s.1 215 5) + 1))).bind fun q2 =>
  if (gb q2.1) = 0 then (
    gm_146_113 x2 q2.2) else (
    (gm_137 q2.2).bind fun q5 =>
    if (-2147483648 ≤ q5.1 ∧ q5.1 ≤ 2147483647) then (
    if q5.1 = 61 then (
      gm_146_113 x2 q5.2) else (
      (gm_139 1 (q5.2.1 215 5) q5.2).bind fun q9 =>
      gm_146_113 x2 q9)) else none)
def gm_146_47 (x1 : Int) (s0 : Int) (s : gx_S) : Option (gx_S) :=
  if (-2147483648 ≤ s0 ∧ s0 ≤ 2147483647) then (
  if ¬ s0 = (-1) then (
    if (-2147483648 ≤ ((Int32.ofInt (((Int32.ofInt (s.1 215 11) >>> (Int32.ofInt s0 &&& 31))).toInt) &&& Int32.ofInt 1)).toInt ∧ ((Int32.ofInt (((Int32.ofInt (s.1 215 11) >>> (Int32.ofInt s0 &&& 31))).toInt) &&& Int32.ofInt 1)).toInt ≤ 2147483647) then (
    if ¬ ((Int32.ofInt (((Int32.ofInt (s.1 215 11) >>> (Int32.ofInt s0 &&& 31))).toInt) &&& Int32.ofInt 1)).toInt = 1 then (
      gm_146_78 s0 s) else (
      (gm_139 3 x1 s).bind fun q6 =>
      gm_146_78 s0 q6)) else none) else (
    (gm_139 1 x1 s).bind fun q8 =>
    some q8)) else none
def gm_146 (s : gx_S) : Option (gx_S) :=
  (gm_137 s).bind fun q61 =>
  if (-2147483648 ≤ q61.1 ∧ q61.1 ≤ 2147483647) then (
  if ¬ q61.1 = 63 then (
    (gm_137 q61.2).bind fun q65 =>
    if (-2147483648 ≤ q65.1 ∧ q65.1 ≤ 2147483647) then (
    (gm_130 q65.1 97 104 q65.2).bind fun q68 =>
    if (gb q68.1) = 0 then (
      gm_146_47 (s.1 215 5) (-1) q68.2) else (
      (gm_137 q68.2).bind fun q71 =>
      gm_146_47 (s.1 215 5) (q71.1 - 97) q71.2)) else none) else (
    gm_146_47 (s.1 215 5) 8 q61.2)) else none
/-! ZoneSharesModel.readsCounts()V -/
def gm_147_78 (k_49 : Int → gx_S → Option (gx_S)) (s0 : Int) (s : gx_S) : Option (gx_S) :=
  (gm_131 s0 s).bind fun q2 =>
  k_49 s0 (gw1 q2.2 215 5 ((s.1 215 5) + q2.1))
def gm_147_49 : Nat → Int → gx_S → Option (gx_S)
  | 0, _, _ => none
  | n + 1, x1, s =>
    if (-2147483648 ≤ x1 ∧ x1 ≤ 2147483647) then (
    if x1 = 0 then (
      (gm_138 s).bind fun q4 =>
      if (gb q4.1) = 0 then (
        some q4.2) else (
        (gm_137 q4.2).bind fun q7 =>
        if (-2147483648 ≤ q7.1 ∧ q7.1 ≤ 2147483647) then (
        if q7.1 = (-1) then (
          some q7.2) else (
          (gm_139 1 (q7.2.1 215 5) q7.2).bind fun q11 =>
          some q11)) else none)) else (
      (gm_146 s).bind fun q13 =>
      (gm_138 q13).bind fun q15 =>
      if (gb q15.1) = 0 then (
        gm_147_78 (gm_147_49 n) 0 q15.2) else (
        (gm_137 q15.2).bind fun q18 =>
        if (-2147483648 ≤ q18.1 ∧ q18.1 ≤ 2147483647) then (
        if ¬ q18.1 = 44 then (
          gm_147_78 (gm_147_49 n) 0 q18.2) else (
          gm_147_78 (gm_147_49 n) 1 q18.2)) else none))) else none
def gm_147_48 (s0 : Int) (s : gx_S) : Option (gx_S) :=
  gm_147_49 100000 s0 s
def gm_147_17 : Nat → Int → gx_S → Option (gx_S)
  | 0, _, _ => none
  | n + 1, x1, s =>
    if (-2147483648 ≤ x1 ∧ x1 ≤ 2147483647) then (
    if 9 ≤ x1 then (
      if (-2147483648 ≤ (s.1 215 4) ∧ (s.1 215 4) ≤ 2147483647) then (
      if (s.1 215 4) ≤ 0 then (
        gm_147_48 0 s) else (
        gm_147_48 1 s)) else none) else (
      if 0 ≤ x1 ∧ x1 < 9 then (
      gm_147_17 n (x1 + 1) (gw1 s 220 (x1).toNat 0)) else none)) else none
def gm_147 (s : gx_S) : Option (gx_S) :=
  gm_147_17 100000 0 (gw1 (gw1 (gw1 s 215 5 0) 215 6 (-1)) 215 11 0)
/-! ZoneSharesModel.isGroup(I)Z -/
def gm_148 (x0 : Int) (s : gx_S) : Option (Bool × gx_S) :=
  if (-2147483648 ≤ x0 ∧ x0 ≤ 2147483647) then (
  (gm_130 x0 0 2 s).bind fun q6 =>
  some (q6.1, q6.2)) else none
/-! ZoneSharesModel.counts(I)I -/
def gm_149_41 : Nat → Int → Int → Int → gx_S → Option (Int × gx_S)
  | 0, _, _, _, _ => none
  | n + 1, x1, x2, x3, s =>
    if (-2147483648 ≤ x3 ∧ x3 ≤ 2147483647) then (
    if 9 ≤ x3 then (
      some (x2, s)) else (
      if 0 ≤ x3 ∧ x3 < 9 then (
      if 0 ≤ ((5 + (9 * x1)) + x3) ∧ ((5 + (9 * x1)) + x3) < 340 then (
      gm_149_41 n x1 (x2 + ((gw1 s 216 (((5 + (9 * x1)) + x3)).toNat (s.1 220 (x3).toNat)).1 220 (x3).toNat)) (x3 + 1) (gw1 s 216 (((5 + (9 * x1)) + x3)).toNat (s.1 220 (x3).toNat))) else none) else none)) else none
def gm_149 (x1 : Int) (s : gx_S) : Option (Int × gx_S) :=
  (gm_148 x1 s).bind fun q22 =>
  if ¬ (gb q22.1) = 0 then (
    (gm_147 q22.2).bind fun q25 =>
    (gm_138 (gw1 q25 215 4 0)).bind fun q27 =>
    if ¬ (gb q27.1) = 0 then (
      (gm_132 q27.2).bind fun q30 =>
      gm_149_41 100000 x1 0 0 q30) else (
      some (((-2) - (q27.2.1 215 6)), q27.2))) else (
    some ((-1), q22.2))
/-! ZoneSharesModel.isWhole()Z -/
def gm_150 (s : gx_S) : Option (Bool × gx_S) :=
  if (-2147483648 ≤ (s.1 216 2) ∧ (s.1 216 2) ≤ 2147483647) then (
  if ¬ (s.1 216 2) = 7 then (
    some (false, s)) else (
    some (true, s))) else none
/-! ZoneSharesModel.cellMany()I -/
def gm_151 (s : gx_S) : Option (Int × gx_S) :=
  some (((s.1 216 0) * (s.1 216 1)), s)
/-! ZoneSharesModel.codeAt(II)I -/
def gm_152 (x1 : Int) (x2 : Int) (s : gx_S) : Option (Int × gx_S) :=
  if 0 ≤ x2 ∧ x2 ≤ 2147483647 ∧ 0 < (s.1 216 1) ∧ (s.1 216 1) ≤ 2147483647 then (
  if 0 ≤ (((52 + (96 * x1)) + (12 * (x2 / (s.1 216 1)))) + (x2 % (s.1 216 1))) ∧ (((52 + (96 * x1)) + (12 * (x2 / (s.1 216 1)))) + (x2 % (s.1 216 1))) < 340 then (
  some ((s.1 216 ((((52 + (96 * x1)) + (12 * (x2 / (s.1 216 1)))) + (x2 % (s.1 216 1)))).toNat), s)) else none) else none
/-! ZoneSharesModel.hasZone(II)Z -/
def gm_153_2 : Nat → Int → Int → Int → gx_S → Option (Bool × gx_S)
  | 0, _, _, _, _ => none
  | n + 1, x1, x2, x3, s =>
    (gm_151 s).bind fun q2 =>
    if (-2147483648 ≤ x3 ∧ x3 ≤ 2147483647) then (
    if (-2147483648 ≤ q2.1 ∧ q2.1 ≤ 2147483647) then (
    if q2.1 ≤ x3 then (
      some (false, q2.2)) else (
      (gm_144 x1 q2.2).bind fun q7 =>
      if (gb q7.1) = 0 then (
        some (false, q7.2)) else (
        (gm_152 x1 x3 q7.2).bind fun q10 =>
        if (-2147483648 ≤ q10.1 ∧ q10.1 ≤ 2147483647) then (
        if (-2147483648 ≤ x2 ∧ x2 ≤ 2147483647) then (
        if ¬ q10.1 = x2 then (
          gm_153_2 n x1 x2 (x3 + 1) q10.2) else (
          some (true, q10.2))) else none) else none))) else none) else none
def gm_153 (x1 : Int) (x2 : Int) (s : gx_S) : Option (Bool × gx_S) :=
  gm_153_2 100000 x1 x2 0 s
/-! ZoneSharesModel.codeMany(II)I -/
def gm_154_5 : Nat → Int → Int → Int → Int → gx_S → Option (Int × gx_S)
  | 0, _, _, _, _, _ => none
  | n + 1, x1, x2, x3, x4, s =>
    if (-2147483648 ≤ x4 ∧ x4 ≤ 2147483647) then (
    if (-2147483648 ≤ x2 ∧ x2 ≤ 2147483647) then (
    if x2 ≤ x4 then (
      some (x3, s)) else (
      (gm_153 x1 x4 s).bind fun q5 =>
      (gm_131 (gb q5.1) q5.2).bind fun q7 =>
      gm_154_5 n x1 x2 (x3 + q7.1) (x4 + 1) q7.2)) else none) else none
def gm_154 (x1 : Int) (x2 : Int) (s : gx_S) : Option (Int × gx_S) :=
  gm_154_5 100000 x1 x2 0 0 s
/-! ZoneSharesModel.countOf(II)I -/
def gm_155 (x1 : Int) (x2 : Int) (s : gx_S) : Option (Int × gx_S) :=
  if 0 ≤ ((5 + (9 * x1)) + x2) ∧ ((5 + (9 * x1)) + x2) < 340 then (
  some ((s.1 216 (((5 + (9 * x1)) + x2)).toNat), s)) else none
/-! ZoneSharesModel.weightAt(II)I -/
def gm_156 (x1 : Int) (x2 : Int) (s : gx_S) : Option (Int × gx_S) :=
  (gm_152 2 x2 s).bind fun q7 =>
  if 0 ≤ ((32 + (4 * x1)) + q7.1) ∧ ((32 + (4 * x1)) + q7.1) < 340 then (
  some ((q7.2.1 216 (((32 + (4 * x1)) + q7.1)).toNat), q7.2)) else none
/-! ZoneSharesModel.sumOf(IIIZ)I -/
def gm_157_81 (k_6 : Int → Int → Int → Int → Int → Int → gx_S → Option (Int × gx_S)) (x1 : Int) (x2 : Int) (x3 : Int) (x4 : Int) (x6 : Int) (s0 : Int) (s1 : Int) (s : gx_S) : Option (Int × gx_S) :=
  k_6 x1 x2 x3 x4 (s0 + s1) (x6 + 1) s
def gm_157_52 (k_6 : Int → Int → Int → Int → Int → Int → gx_S → Option (Int × gx_S)) (x1 : Int) (x2 : Int) (x3 : Int) (x4 : Int) (x5 : Int) (x6 : Int) (s0 : Int) (s : gx_S) : Option (Int × gx_S) :=
  if (-2147483648 ≤ s0 ∧ s0 ≤ 2147483647) then (
  if ¬ s0 = 0 then (
    if (-2147483648 ≤ x4 ∧ x4 ≤ 2147483647) then (
    if x4 = 0 then (
      (gm_156 x1 x6 s).bind fun q6 =>
      gm_157_81 k_6 x1 x2 x3 x4 x6 x5 q6.1 q6.2) else (
      gm_157_81 k_6 x1 x2 x3 x4 x6 x5 1 s)) else none) else (
    gm_157_81 k_6 x1 x2 x3 x4 x6 x5 0 s)) else none
def gm_157_31 (k_6 : Int → Int → Int → Int → Int → Int → gx_S → Option (Int × gx_S)) (x1 : Int) (x2 : Int) (x3 : Int) (x4 : Int) (x5 : Int) (x6 : Int) (s : gx_S) : Option (Int × gx_S) :=
  if (-2147483648 ≤ x3 ∧ x3 ≤ 2147483647) then (
  if x3 = (-1) then (
    gm_157_52 k_6 x1 x2 x3 x4 x5 x6 1 s) else (
    (gm_152 1 x6 s).bind fun q4 =>
    if (-2147483648 ≤ q4.1 ∧ q4.1 ≤ 2147483647) then (
    if ¬ q4.1 = x3 then (
      gm_157_52 k_6 x1 x2 x3 x4 x5 x6 0 q4.2) else (
      gm_157_52 k_6 x1 x2 x3 x4 x5 x6 1 q4.2)) else none)) else none
def gm_157_6 : Nat → Int → Int → Int → Int → Int → Int → gx_S → Option (Int × gx_S)
  | 0, _, _, _, _, _, _, _ => none
  | n + 1, x1, x2, x3, x4, x5, x6, s =>
    (gm_151 s).bind fun q2 =>
    if (-2147483648 ≤ x6 ∧ x6 ≤ 2147483647) then (
    if (-2147483648 ≤ q2.1 ∧ q2.1 ≤ 2147483647) then (
    if q2.1 ≤ x6 then (
      some (x5, q2.2)) else (
      if (-2147483648 ≤ x2 ∧ x2 ≤ 2147483647) then (
      if x2 = (-1) then (
        gm_157_31 (gm_157_6 n) x1 x2 x3 x4 x5 x6 q2.2) else (
        (gm_152 0 x6 q2.2).bind fun q9 =>
        if (-2147483648 ≤ q9.1 ∧ q9.1 ≤ 2147483647) then (
        if ¬ q9.1 = x2 then (
          gm_157_52 (gm_157_6 n) x1 x2 x3 x4 x5 x6 0 q9.2) else (
          gm_157_31 (gm_157_6 n) x1 x2 x3 x4 x5 x6 q9.2)) else none)) else none)) else none) else none
def gm_157 (x1 : Int) (x2 : Int) (x3 : Int) (x4 : Int) (s : gx_S) : Option (Int × gx_S) :=
  gm_157_6 100000 x1 x2 x3 x4 0 0 s
/-! ZoneSharesModel.oldCells(I)I -/
def gm_158_28 (k_4 : Int → Int → Int → gx_S → Option (Int × gx_S)) (x1 : Int) (x3 : Int) (s0 : Int) (s1 : Int) (s : gx_S) : Option (Int × gx_S) :=
  (gm_131 s1 s).bind fun q2 =>
  k_4 x1 (s0 + q2.1) (x3 + 1) q2.2
def gm_158_4 : Nat → Int → Int → Int → gx_S → Option (Int × gx_S)
  | 0, _, _, _, _ => none
  | n + 1, x1, x2, x3, s =>
    (gm_151 s).bind fun q2 =>
    if (-2147483648 ≤ x3 ∧ x3 ≤ 2147483647) then (
    if (-2147483648 ≤ q2.1 ∧ q2.1 ≤ 2147483647) then (
    if q2.1 ≤ x3 then (
      some (x2, q2.2)) else (
      (gm_152 0 x3 q2.2).bind fun q7 =>
      if (-2147483648 ≤ q7.1 ∧ q7.1 ≤ 2147483647) then (
      if (-2147483648 ≤ x1 ∧ x1 ≤ 2147483647) then (
      if ¬ q7.1 = x1 then (
        gm_158_28 (gm_158_4 n) x1 x3 x2 0 q7.2) else (
        gm_158_28 (gm_158_4 n) x1 x3 x2 1 q7.2)) else none) else none)) else none) else none
def gm_158 (x1 : Int) (s : gx_S) : Option (Int × gx_S) :=
  gm_158_4 100000 x1 0 0 s
/-! ZoneSharesModel.begins(II)V -/
def gm_159_12 : Nat → Int → gx_S → Option (gx_S)
  | 0, _, _ => none
  | n + 1, x3, s =>
    if (-2147483648 ≤ x3 ∧ x3 ≤ 2147483647) then (
    if 72 ≤ x3 then (
      some s) else (
      if 0 ≤ x3 ∧ x3 < 72 then (
      gm_159_12 n (x3 + 1) (gw2 (gw2 (gw1 s 222 (x3).toNat 0) 224 (x3).toNat 0) 225 (x3).toNat 0)) else none)) else none
def gm_159 (x1 : Int) (x2 : Int) (s : gx_S) : Option (gx_S) :=
  gm_159_12 100000 0 (gw1 (gw1 s 215 17 x1) 215 18 x2)
/-! ZoneSharesModel.at(II)I -/
def gm_160 (x0 : Int) (x1 : Int) (s : gx_S) : Option (Int × gx_S) :=
  some (((9 * x0) + x1), s)
/-! ZoneSharesModel.wholeOf(I)I -/
def gm_161_4 : Nat → Int → Int → Int → gx_S → Option (Int × gx_S)
  | 0, _, _, _, _ => none
  | n + 1, x1, x2, x3, s =>
    if (-2147483648 ≤ x3 ∧ x3 ≤ 2147483647) then (
    if (-2147483648 ≤ (s.1 215 18) ∧ (s.1 215 18) ≤ 2147483647) then (
    if (s.1 215 18) ≤ x3 then (
      if 0 ≤ x1 ∧ x1 < 8 then (
      some (x2, (gw1 s 223 (x1).toNat x2))) else none) else (
      (gm_160 x1 x3 s).bind fun q8 =>
      if 0 ≤ q8.1 ∧ q8.1 < 72 then (
      gm_161_4 n x1 (x2 + (q8.2.1 222 (q8.1).toNat)) (x3 + 1) q8.2) else none)) else none) else none
def gm_161 (x1 : Int) (s : gx_S) : Option (Int × gx_S) :=
  gm_161_4 100000 x1 0 0 s
/-! ZoneSharesModel.cutsOff(I)J -/
def gm_162_107 (k_10 : Int → Int → Int → gx_S → Option (Int × gx_S)) (x1 : Int) (x2 : Int) (x4 : Int) (s1 : Int) (s2 : Int) (s : gx_S) : Option (Int × gx_S) :=
  if 0 ≤ s1 ∧ s1 < 72 then (
  (gm_160 x1 x4 (gw2 s 225 (s1).toNat s2)).bind fun q5 =>
  if 0 ≤ q5.1 ∧ q5.1 < 72 then (
  k_10 x1 (x2 - (q5.2.2 224 (q5.1).toNat)) (x4 + 1) q5.2) else none) else none
def gm_162_73 (k_10 : Int → Int → Int → gx_S → Option (Int × gx_S)) (x1 : Int) (x2 : Int) (x4 : Int) (x5 : Int) (s1 : Int) (s2 : Int) (s : gx_S) : Option (Int × gx_S) :=
  if 0 ≤ s1 ∧ s1 < 72 then (
  (gm_160 x1 x4 (gw2 s 224 (s1).toNat s2)).bind fun q5 =>
  if 0 ≤ x1 ∧ x1 < 8 then (
  if (-2147483648 ≤ (q5.2.1 223 (x1).toNat) ∧ (q5.2.1 223 (x1).toNat) ≤ 2147483647) then (
  if ¬ (q5.2.1 223 (x1).toNat) = 0 then (
    if 0 ≤ x5 ∧ x5 ≤ 9223372036854775807 ∧ 0 < (q5.2.1 223 (x1).toNat) ∧ (q5.2.1 223 (x1).toNat) ≤ 9223372036854775807 then (
    gm_162_107 k_10 x1 x2 x4 q5.1 (x5 % (q5.2.1 223 (x1).toNat)) q5.2) else none) else (
    gm_162_107 k_10 x1 x2 x4 q5.1 0 q5.2)) else none) else none) else none
def gm_162_10 : Nat → Int → Int → Int → gx_S → Option (Int × gx_S)
  | 0, _, _, _, _ => none
  | n + 1, x1, x2, x4, s =>
    if (-2147483648 ≤ x4 ∧ x4 ≤ 2147483647) then (
    if (-2147483648 ≤ (s.1 215 18) ∧ (s.1 215 18) ≤ 2147483647) then (
    if (s.1 215 18) ≤ x4 then (
      if 0 ≤ x1 ∧ x1 < 8 then (
      if (-2147483648 ≤ (s.1 223 (x1).toNat) ∧ (s.1 223 (x1).toNat) ≤ 2147483647) then (
      if ¬ (s.1 223 (x1).toNat) = 0 then (
        some (x2, s)) else (
        some (0, s))) else none) else none) else (
      if 0 ≤ x1 ∧ x1 < 8 then (
      (gm_160 x1 x4 s).bind fun q13 =>
      if 0 ≤ q13.1 ∧ q13.1 < 72 then (
      if (-2147483648 ≤ (q13.2.1 222 (q13.1).toNat) ∧ (q13.2.1 222 (q13.1).toNat) ≤ 2147483647) then (
      (gm_160 x1 x4 q13.2).bind fun q19 =>
      if (-2147483648 ≤ (q19.2.1 223 (x1).toNat) ∧ (q19.2.1 223 (x1).toNat) ≤ 2147483647) then (
      if ¬ (q19.2.1 223 (x1).toNat) = 0 then (
        if 0 ≤ ((s.2 221 (x1).toNat) * (q13.2.1 222 (q13.1).toNat)) ∧ ((s.2 221 (x1).toNat) * (q13.2.1 222 (q13.1).toNat)) ≤ 9223372036854775807 ∧ 0 < (q19.2.1 223 (x1).toNat) ∧ (q19.2.1 223 (x1).toNat) ≤ 9223372036854775807 then (
        gm_162_73 (gm_162_10 n) x1 x2 x4 ((s.2 221 (x1).toNat) * (q13.2.1 222 (q13.1).toNat)) q19.1 (((s.2 221 (x1).toNat) * (q13.2.1 222 (q13.1).toNat)) / (q19.2.1 223 (x1).toNat)) q19.2) else none) else (
        gm_162_73 (gm_162_10 n) x1 x2 x4 ((s.2 221 (x1).toNat) * (q13.2.1 222 (q13.1).toNat)) q19.1 0 q19.2)) else none) else none) else none) else none)) else none) else none
def gm_162 (x1 : Int) (s : gx_S) : Option (Int × gx_S) :=
  if 0 ≤ x1 ∧ x1 < 8 then (
  gm_162_10 100000 x1 (s.2 221 (x1).toNat) 0 s) else none
/-! ZoneSharesModel.givesByRests(I)V -/
def gm_163_79 (k_18 : Int → Int → Int → Int → gx_S → Option (gx_S)) (x1 : Int) (x2 : Int) (x4 : Int) (x5 : Int) (s : gx_S) : Option (gx_S) :=
  k_18 x1 x2 x4 (x5 + 1) s
def gm_163_75 (k_18 : Int → Int → Int → Int → gx_S → Option (gx_S)) (x1 : Int) (x2 : Int) (x5 : Int) (s : gx_S) : Option (gx_S) :=
  gm_163_79 k_18 x1 x2 x5 x5 s
def gm_163_18 (k_6 : Int → Int → gx_S → Option (gx_S)) : Nat → Int → Int → Int → Int → gx_S → Option (gx_S)
  | 0, _, _, _, _, _ => none
  | n + 1, x1, x2, x4, x5, s =>
    if (-2147483648 ≤ x5 ∧ x5 ≤ 2147483647) then (
    if (-2147483648 ≤ (s.1 215 18) ∧ (s.1 215 18) ≤ 2147483647) then (
    if (s.1 215 18) ≤ x5 then (
      (gm_160 x1 x4 s).bind fun q5 =>
      if 0 ≤ q5.1 ∧ q5.1 < 72 then (
      (gm_160 x1 x4 (gw2 q5.2 224 (q5.1).toNat ((q5.2.2 224 (q5.1).toNat) + 1))).bind fun q12 =>
      if 0 ≤ q12.1 ∧ q12.1 < 72 then (
      k_6 x1 (x2 - 1) (gw2 q12.2 225 (q12.1).toNat 0)) else none) else none) else (
      (gm_160 x1 x5 s).bind fun q17 =>
      if 0 ≤ q17.1 ∧ q17.1 < 72 then (
      if (-9223372036854775808 ≤ (q17.2.2 225 (q17.1).toNat) ∧ (q17.2.2 225 (q17.1).toNat) ≤ 9223372036854775807) then (
      if (q17.2.2 225 (q17.1).toNat) ≤ 0 then (
        gm_163_79 (gm_163_18 k_6 n) x1 x2 x4 x5 q17.2) else (
        if (-2147483648 ≤ x4 ∧ x4 ≤ 2147483647) then (
        if x4 = (-1) then (
          gm_163_75 (gm_163_18 k_6 n) x1 x2 x5 q17.2) else (
          (gm_160 x1 x5 q17.2).bind fun q26 =>
          if 0 ≤ q26.1 ∧ q26.1 < 72 then (
          (gm_160 x1 x4 q26.2).bind fun q31 =>
          if 0 ≤ q31.1 ∧ q31.1 < 72 then (
          if (-9223372036854775808 ≤ (q26.2.2 225 (q26.1).toNat) ∧ (q26.2.2 225 (q26.1).toNat) ≤ 9223372036854775807) then (
          if (-9223372036854775808 ≤ (q31.2.2 225 (q31.1).toNat) ∧ (q31.2.2 225 (q31.1).toNat) ≤ 9223372036854775807) then (
          if (q26.2.2 225 (q26.1).toNat) ≤ (q31.2.2 225 (q31.1).toNat) then (
            gm_163_79 (gm_163_18 k_6 n) x1 x2 x4 x5 q31.2) else (
            gm_163_75 (gm_163_18 k_6 n) x1 x2 x5 q31.2)) else none) else none) else none) else none)) else none)) else none) else none)) else none) else none
def gm_163_6 : Nat → Int → Int → gx_S → Option (gx_S)
  | 0, _, _, _ => none
  | n + 1, x1, x2, s =>
    if (-9223372036854775808 ≤ x2 ∧ x2 ≤ 9223372036854775807) then (
    if x2 ≤ 0 then (
      some s) else (
      gm_163_18 (gm_163_6 n) 100000 x1 x2 (-1) 0 s)) else none
def gm_163 (x1 : Int) (s : gx_S) : Option (gx_S) :=
  (gm_162 x1 s).bind fun q45 =>
  gm_163_6 100000 x1 q45.1 q45.2
/-! ZoneSharesModel.divisor(JJ)J -/
def gm_164_6 : Nat → Int → Int → gx_S → Option (Int × gx_S)
  | 0, _, _, _ => none
  | n + 1, x4, x6, s =>
    if (-9223372036854775808 ≤ x6 ∧ x6 ≤ 9223372036854775807) then (
    if x6 = 0 then (
      some (x4, s)) else (
      if 0 ≤ x4 ∧ x4 ≤ 9223372036854775807 ∧ 0 < x6 ∧ x6 ≤ 9223372036854775807 then (
      gm_164_6 n x6 (x4 % x6) s) else none)) else none
def gm_164 (x0 : Int) (x2 : Int) (s : gx_S) : Option (Int × gx_S) :=
  gm_164_6 100000 x0 x2 s
/-! ZoneSharesModel.addsPart(JJ)V -/
def gm_165 (x1 : Int) (x3 : Int) (s : gx_S) : Option (gx_S) :=
  (gm_164 (s.2 215 30) x3 s).bind fun q10 =>
  if 0 ≤ (q10.2.2 215 30) ∧ (q10.2.2 215 30) ≤ 9223372036854775807 ∧ 0 < q10.1 ∧ q10.1 ≤ 9223372036854775807 then (
  if 0 ≤ (((q10.2.2 215 30) / q10.1) * x3) ∧ (((q10.2.2 215 30) / q10.1) * x3) ≤ 9223372036854775807 ∧ 0 < (q10.2.2 215 30) ∧ (q10.2.2 215 30) ≤ 9223372036854775807 then (
  if 0 ≤ (((q10.2.2 215 30) / q10.1) * x3) ∧ (((q10.2.2 215 30) / q10.1) * x3) ≤ 9223372036854775807 ∧ 0 < x3 ∧ x3 ≤ 9223372036854775807 then (
  some (gw2 (gw2 q10.2 215 29 (((q10.2.2 215 29) * ((((q10.2.2 215 30) / q10.1) * x3) / (q10.2.2 215 30))) + (x1 * ((((q10.2.2 215 30) / q10.1) * x3) / x3)))) 215 30 (((q10.2.2 215 30) / q10.1) * x3))) else none) else none) else none
/-! ZoneSharesModel.laysColumn(I)V -/
def gm_166_107 (s1 : Int) (s2 : Int) (s3 : Int) (s : gx_S) : Option (gx_S) :=
  (gm_131 s3 s).bind fun q2 =>
  if (-2147483648 ≤ q2.1 ∧ q2.1 ≤ 2147483647) then (
  if 0 ≤ s1 ∧ s1 < 9 then (
  some (gw2 q2.2 228 (s1).toNat (s2 + q2.1))) else none) else none
def gm_166_56 (k_12 : Int → Int → gx_S → Option (gx_S)) (x1 : Int) (x2 : Int) (s : gx_S) : Option (gx_S) :=
  k_12 x1 (x2 + 1) s
def gm_166_12 : Nat → Int → Int → gx_S → Option (gx_S)
  | 0, _, _, _ => none
  | n + 1, x1, x2, s =>
    if (-2147483648 ≤ x2 ∧ x2 ≤ 2147483647) then (
    if (-2147483648 ≤ (s.1 215 17) ∧ (s.1 215 17) ≤ 2147483647) then (
    if (s.1 215 17) ≤ x2 then (
      if 0 ≤ (s.2 215 29) ∧ (s.2 215 29) ≤ 9223372036854775807 ∧ 0 < (s.2 215 30) ∧ (s.2 215 30) ≤ 9223372036854775807 then (
      if 0 ≤ x1 ∧ x1 < 9 then (
      if 0 ≤ ((gw2 s 227 (x1).toNat ((s.2 215 29) / (s.2 215 30))).2 215 29) ∧ ((gw2 s 227 (x1).toNat ((s.2 215 29) / (s.2 215 30))).2 215 29) ≤ 9223372036854775807 ∧ 0 < ((gw2 s 227 (x1).toNat ((s.2 215 29) / (s.2 215 30))).2 215 30) ∧ ((gw2 s 227 (x1).toNat ((s.2 215 29) / (s.2 215 30))).2 215 30) ≤ 9223372036854775807 then (
      if (-9223372036854775808 ≤ (((gw2 s 227 (x1).toNat ((s.2 215 29) / (s.2 215 30))).2 215 29) % ((gw2 s 227 (x1).toNat ((s.2 215 29) / (s.2 215 30))).2 215 30)) ∧ (((gw2 s 227 (x1).toNat ((s.2 215 29) / (s.2 215 30))).2 215 29) % ((gw2 s 227 (x1).toNat ((s.2 215 29) / (s.2 215 30))).2 215 30)) ≤ 9223372036854775807) then (
      if (((gw2 s 227 (x1).toNat ((s.2 215 29) / (s.2 215 30))).2 215 29) % ((gw2 s 227 (x1).toNat ((s.2 215 29) / (s.2 215 30))).2 215 30)) ≤ 0 then (
        gm_166_107 x1 ((gw2 s 227 (x1).toNat ((s.2 215 29) / (s.2 215 30))).2 227 (x1).toNat) 0 (gw2 s 227 (x1).toNat ((s.2 215 29) / (s.2 215 30)))) else (
        gm_166_107 x1 ((gw2 s 227 (x1).toNat ((s.2 215 29) / (s.2 215 30))).2 227 (x1).toNat) 1 (gw2 s 227 (x1).toNat ((s.2 215 29) / (s.2 215 30))))) else none) else none) else none) else none) else (
      (gm_160 x2 x1 s).bind fun q16 =>
      if 0 ≤ q16.1 ∧ q16.1 < 72 then (
      if (-9223372036854775808 ≤ (q16.2.2 225 (q16.1).toNat) ∧ (q16.2.2 225 (q16.1).toNat) ≤ 9223372036854775807) then (
      if (q16.2.2 225 (q16.1).toNat) ≤ 0 then (
        gm_166_56 (gm_166_12 n) x1 x2 q16.2) else (
        (gm_160 x2 x1 q16.2).bind fun q23 =>
        if 0 ≤ q23.1 ∧ q23.1 < 72 then (
        if 0 ≤ x2 ∧ x2 < 8 then (
        if (-2147483648 ≤ (q23.2.1 223 (x2).toNat) ∧ (q23.2.1 223 (x2).toNat) ≤ 2147483647) then (
        (gm_165 (q23.2.2 225 (q23.1).toNat) (q23.2.1 223 (x2).toNat) q23.2).bind fun q32 =>
        gm_166_56 (gm_166_12 n) x1 x2 q32) else none) else none) else none)) else none) else none)) else none) else none
def gm_166 (x1 : Int) (s : gx_S) : Option (gx_S) :=
  gm_166_12 100000 x1 0 (gw2 (gw2 s 215 29 0) 215 30 1)
/-! ZoneSharesModel.mayBe(II)Z -/
def gm_167 (x1 : Int) (x2 : Int) (s : gx_S) : Option (Bool × gx_S) :=
  (gm_160 x1 x2 s).bind fun q9 =>
  if 0 ≤ q9.1 ∧ q9.1 < 72 then (
  if (-9223372036854775808 ≤ (q9.2.2 225 (q9.1).toNat) ∧ (q9.2.2 225 (q9.1).toNat) ≤ 9223372036854775807) then (
  if (q9.2.2 225 (q9.1).toNat) ≤ 0 then (
    some (false, q9.2)) else (
    some (true, q9.2))) else none) else none
/-! ZoneSharesModel.unknownOf(I)I -/
def gm_174_36 (k_10 : Int → Int → Int → gx_S → Option (Int × gx_S)) (x1 : Int) (x3 : Int) (s0 : Int) (s1 : Int) (s : gx_S) : Option (Int × gx_S) :=
  k_10 x1 (s0 + s1) (x3 + 1) s
def gm_174_10 : Nat → Int → Int → Int → gx_S → Option (Int × gx_S)
  | 0, _, _, _, _ => none
  | n + 1, x1, x2, x3, s =>
    if (-2147483648 ≤ x3 ∧ x3 ≤ 2147483647) then (
    if 8 ≤ x3 then (
      some (x2, s)) else (
      (gm_153 0 x3 s).bind fun q4 =>
      if (gb q4.1) = 0 then (
        (gm_155 x1 x3 q4.2).bind fun q7 =>
        gm_174_36 (gm_174_10 n) x1 x3 x2 q7.1 q7.2) else (
        gm_174_36 (gm_174_10 n) x1 x3 x2 0 q4.2))) else none
def gm_174 (x1 : Int) (s : gx_S) : Option (Int × gx_S) :=
  (gm_155 x1 8 s).bind fun q11 =>
  gm_174_10 100000 x1 q11.1 0 q11.2
/-! ZoneSharesModel.isShared()Z -/
def gm_175 (s : gx_S) : Option (Bool × gx_S) :=
  if (-2147483648 ≤ (s.1 216 4) ∧ (s.1 216 4) ≤ 2147483647) then (
  if ¬ (s.1 216 4) = 1 then (
    some (false, s)) else (
    (gm_154 0 8 s).bind fun q14 =>
    if (-2147483648 ≤ q14.1 ∧ q14.1 ≤ 2147483647) then (
    if q14.1 ≤ 0 then (
      some (false, q14.2)) else (
      some (true, q14.2))) else none)) else none
/-! ZoneSharesModel.asideOf(I)I -/
def gm_176 (x1 : Int) (s : gx_S) : Option (Int × gx_S) :=
  (gm_175 s).bind fun q7 =>
  if (gb q7.1) = 0 then (
    (gm_174 x1 q7.2).bind fun q10 =>
    some (q10.1, q10.2)) else (
    some (0, q7.2))
/-! ZoneSharesModel.laysLiving(I)V -/
def gm_177_124 : Nat → Int → gx_S → Option (gx_S)
  | 0, _, _ => none
  | n + 1, x2, s =>
    if (-2147483648 ≤ x2 ∧ x2 ≤ 2147483647) then (
    if 8 ≤ x2 then (
      some s) else (
      if 0 ≤ x2 ∧ x2 < 8 then (
      if 0 ≤ x2 ∧ x2 < 72 then (
      gm_177_124 n (x2 + 1) (gw1 s 236 (x2).toNat ((s.1 236 (x2).toNat) + (s.2 224 (x2).toNat)))) else none) else none)) else none
def gm_177_117 (s : gx_S) : Option (gx_S) :=
  (gm_163 0 s).bind fun q2 =>
  gm_177_124 100000 0 q2
def gm_177_88 : Nat → Int → gx_S → Option (gx_S)
  | 0, _, _ => none
  | n + 1, x2, s =>
    if (-2147483648 ≤ x2 ∧ x2 ≤ 2147483647) then (
    if 8 ≤ x2 then (
      (gm_161 0 s).bind fun q4 =>
      gm_177_117 q4.2) else (
      (gm_158 x2 s).bind fun q6 =>
      if 0 ≤ x2 ∧ x2 < 72 then (
      gm_177_88 n (x2 + 1) (gw1 q6.2 222 (x2).toNat q6.1)) else none)) else none
def gm_177_51 (k_21 : Int → Int → gx_S → Option (gx_S)) (x1 : Int) (x2 : Int) (s1 : Int) (s2 : Int) (s : gx_S) : Option (gx_S) :=
  if 0 ≤ s1 ∧ s1 < 8 then (
  if 0 ≤ x2 ∧ x2 < 8 then (
  if 0 ≤ x2 ∧ x2 < 72 then (
  k_21 x1 (x2 + 1) (gw1 (gw1 s 236 (s1).toNat s2) 222 (x2).toNat ((gw1 s 236 (s1).toNat s2).1 236 (x2).toNat))) else none) else none) else none
def gm_177_21 : Nat → Int → Int → gx_S → Option (gx_S)
  | 0, _, _, _ => none
  | n + 1, x1, x2, s =>
    if (-2147483648 ≤ x2 ∧ x2 ≤ 2147483647) then (
    if 8 ≤ x2 then (
      (gm_175 s).bind fun q4 =>
      if ¬ (gb q4.1) = 0 then (
        (gm_161 0 q4.2).bind fun q7 =>
        if (-2147483648 ≤ q7.1 ∧ q7.1 ≤ 2147483647) then (
        if ¬ q7.1 = 0 then (
          gm_177_117 q7.2) else (
          gm_177_88 100000 0 q7.2)) else none) else (
        some q4.2)) else (
      (gm_153 0 x2 s).bind fun q11 =>
      if (gb q11.1) = 0 then (
        gm_177_51 (gm_177_21 n) x1 x2 x2 0 q11.2) else (
        (gm_155 x1 x2 q11.2).bind fun q14 =>
        gm_177_51 (gm_177_21 n) x1 x2 x2 q14.1 q14.2))) else none
def gm_177 (x1 : Int) (s : gx_S) : Option (gx_S) :=
  (gm_159 1 8 s).bind fun q53 =>
  (gm_174 x1 q53).bind fun q55 =>
  if (-2147483648 ≤ q55.1 ∧ q55.1 ≤ 2147483647) then (
  gm_177_21 100000 x1 0 (gw2 q55.2 221 0 q55.1)) else none
/-! ZoneSharesModel.allTold(I)I -/
def gm_178_4 : Nat → Int → Int → Int → gx_S → Option (Int × gx_S)
  | 0, _, _, _, _ => none
  | n + 1, x1, x2, x3, s =>
    if (-2147483648 ≤ x3 ∧ x3 ≤ 2147483647) then (
    if 9 ≤ x3 then (
      some (x2, s)) else (
      (gm_155 x1 x3 s).bind fun q4 =>
      gm_178_4 n x1 (x2 + q4.1) (x3 + 1) q4.2)) else none
def gm_178 (x1 : Int) (s : gx_S) : Option (Int × gx_S) :=
  gm_178_4 100000 x1 0 0 s
