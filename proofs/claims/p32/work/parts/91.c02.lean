/-! THE CLASS ALONE: queries -/
section
variable {s : gx_S} {f : Nat → Int} {R C n L : Nat} {pf : Nat → Nat → Int} {tb : Nat → Int}
/-- what people() answers -/
def ppv (f : Nat → Int) (R C g y : Nat) : Int := if y < 8 then LV f R C g y else if y = 8 then UN f R C g else if y = 9 then ASf f R C g else sg (fun z => f (5 + 9 * g + z)) 9
theorem qs_people (h : QS f R C n pf L tb s) {g y : Nat} (hg : g < 3) (b : y ≤ 10) : ∃ u : gx_S, gm_97 g y s = some (ppv f R C g y, u) ∧ QS f R C n pf L tb u := by
  obtain ⟨c, v⟩ := id h
  have hx : i32 (g : Int) := by unfold i32; omega
  have hy' : -2147483648 ≤ (y : Int) ∧ (y : Int) ≤ 2147483647 := by omega
  have c14 := sp_114 s hx
  obtain ⟨D, u, u1, u2, u3, u4, u5⟩ := CV_20 v.1 hg c
  obtain ⟨l1, l2, l3⟩ := u4.2.2.2.1 u5
  have s1 : gm_97 g y s = if (8 : Int) ≤ (y : Int) then (if ¬ (y : Int) = 8 then (if ¬ (y : Int) = 9 then ((gm_66 1 g u).bind fun q37 => some (q37.1, q37.2)) else some ((u.1 (71 + 48 * g) 7), u)) else some ((u.1 (71 + 48 * g) 6), u)) else (if 0 ≤ (y : Int) ∧ (y : Int) < 8 then some ((u.1 (71 + 48 * g + 1) (y : Int).toNat), u) else none) := by
    unfold gm_97
    rw [c14, Option.bind_some, if_neg (fun q => (gbD s).mp q (by omega)), if_pos hy', if_neg (by omega), if_pos (by omega), if_pos (by omega), Option.bind_some, vg_ g hg, u1, Option.bind_some]
  refine ⟨u, ?_, u2, v⟩
  rw [s1]
  unfold ppv
  by_cases y8 : y < 8
  · rw [if_neg (by omega), if_pos (by omega), show ((y : Int)).toNat = y by omega, l1 y y8, if_pos y8]
  · rw [if_pos (by omega), if_neg y8]
    by_cases e8 : y = 8
    · rw [if_neg (show ¬ ¬ (y : Int) = 8 by omega), l2, if_pos e8]
    · rw [if_pos (show ¬ (y : Int) = 8 by omega), if_neg e8]
      by_cases e9 : y = 9
      · rw [if_neg (show ¬ ¬ (y : Int) = 9 by omega), l3, if_pos e9]
      · rw [if_pos (show ¬ (y : Int) = 9 by omega), if_neg e9, sp_66g u2.1 hg, Option.bind_some]
theorem qs_moved (h : QS f R C n pf L tb s) (h7 : f 2 = 7) {g : Nat} {o z : Int} (hg : g < 3) (b : -1 ≤ o ∧ o ≤ 7) (d : -1 ≤ z ∧ z ≤ 8) : ∃ u : gx_S, gm_99 g o z s = some (MVs (GV f R C g) o z, u) ∧ QS f R C n pf L tb u := by
  obtain ⟨c, v⟩ := id h
  have hx : i32 (g : Int) := by unfold i32; omega
  have e6 : s.1 1 6 = f 2 := c.1.2.2.1
  have c14 := sp_114 s hx
  have c57 := sp_57 (s := s) (a := 1) (by decide +kernel) (by rw [e6]; exact v.1.2.1)
  rw [e6] at c57
  obtain ⟨D, u, u1, u2, u3, u4, u5, u6⟩ := CV_ready (w := 2) (by omega) v.1 h7 hg c
  have u1 : gm_19 (71 + 48 * g) 2 s = some u := u1
  have tm := (u4.2.2.2.2.1 u5).2.1
  have t1 := sp_99t (a := 71 + 48 * g) (s := u) (o := o) (z := z) (G := GV f R C g) (by omega) (by omega) fun x y hx hy => ((tm x hx).2.2 y hy).2.2.2
  refine ⟨u, ?_, u2, v⟩
  unfold gm_99
  rw [c14, Option.bind_some, if_neg (fun q => (gbD s).mp q (by omega))]
  show ((gm_57 1 s).bind _) = _
  rw [c57, Option.bind_some, if_neg (fun q => (gbD s).mp q h7), if_pos (by omega), if_neg (by omega), if_neg (by omega), if_pos (by omega), if_neg (by omega), if_pos d.2, if_pos (by omega), Option.bind_some, vg_ g hg]
  show ((gm_19 (71 + 48 * g) 2 s).bind _) = _
  rw [u1, Option.bind_some]
  exact t1
/-- refused -/
theorem qs_moved3 (s : gx_S) (o z : Int) : gm_99 3 o z s = some (-1, s) := by
  unfold gm_99
  rw [sp_114 s (show i32 3 by unfold i32; omega), Option.bind_some, if_pos ((gbD s).mpr (by omega))]
theorem qs_moved8 (h : QS f R C n pf L tb s) {g : Nat} {z : Int} (hg : g < 3) : gm_99 g 8 z s = some (-1, s) := by
  obtain ⟨c, v⟩ := id h
  have hx : i32 (g : Int) := by unfold i32; omega
  have e6 : s.1 1 6 = f 2 := c.1.2.2.1
  have c57 := sp_57 (s := s) (a := 1) (by decide +kernel) (by rw [e6]; exact v.1.2.1)
  rw [e6] at c57
  unfold gm_99
  rw [sp_114 s hx, Option.bind_some, if_neg (fun q => (gbD s).mp q (by omega))]
  show ((gm_57 1 s).bind _) = _
  rw [c57, Option.bind_some]
  by_cases h7 : f 2 = 7
  · rw [if_neg (fun q => (gbD s).mp q h7), if_pos (by omega), if_neg (by omega), if_pos (by omega)]
  · rw [if_pos ((gbD s).mpr h7)]
theorem qs_moved9 (h : QS f R C n pf L tb s) {g : Nat} (hg : g < 3) : gm_99 g 0 9 s = some (-1, s) := by
  obtain ⟨c, v⟩ := id h
  have hx : i32 (g : Int) := by unfold i32; omega
  have e6 : s.1 1 6 = f 2 := c.1.2.2.1
  have c57 := sp_57 (s := s) (a := 1) (by decide +kernel) (by rw [e6]; exact v.1.2.1)
  rw [e6] at c57
  unfold gm_99
  rw [sp_114 s hx, Option.bind_some, if_neg (fun q => (gbD s).mp q (by omega))]
  show ((gm_57 1 s).bind _) = _
  rw [c57, Option.bind_some]
  by_cases h7 : f 2 = 7
  · rw [if_neg (fun q => (gbD s).mp q h7), if_pos (by omega), if_neg (by omega), if_neg (by omega), if_pos (by omega), if_neg (by omega), if_neg (by omega)]
  · rw [if_pos ((gbD s).mpr h7)]
/-- a share: its part, and what it is of -/
theorem qs_share (h : QS f R C n pf L tb s) (h7 : f 2 = 7) {g o z : Nat} {t : Int} (hg : g < 3) (ho : o < 8) (hz : z < 9) (ht : t = 0 ∨ t = 1) : ∃ u : gx_S, gm_98 g o z t s = some (if vt (PMV f R C g) o = 0 then -1 else (if ¬ t = 0 then vt (PMV f R C g) o else PMV f R C g o z) / ((Nat.gcd (PMV f R C g o z).toNat (vt (PMV f R C g) o).toNat : Nat) : Int), u) ∧ QS f R C n pf L tb u := by
  obtain ⟨c, v⟩ := id h
  have hx : i32 (g : Int) := by unfold i32; omega
  have hz' : i32 (z : Int) := by unfold i32; omega
  have ho' : i32 (o : Int) := by unfold i32; omega
  have ht' : i32 t := by unfold i32; omega
  have c118 := sp_118 c.1 v.1 hx hz'
  have s1 : gm_98 g o z t s = (if 0 ≤ (g : Int) ∧ (g : Int) < 3 then ((some (fx_rf 70 ((g : Int)).toNat)).bind fun v36 => (gm_19 v36 2 s).bind fun q41 => if 0 ≤ (o : Int) ∧ (o : Int) < 8 then (if (-2147483648 ≤ (q41.1 ((v36 + 3) + 2) ((o : Int)).toNat) ∧ (q41.1 ((v36 + 3) + 2) ((o : Int)).toNat) ≤ 2147483647) then (if ¬ (q41.1 ((v36 + 3) + 2) ((o : Int)).toNat) = 0 then (if 0 ≤ (((o : Int) * 9) + (z : Int)) ∧ (((o : Int) * 9) + (z : Int)) < 72 then (if (-2147483648 ≤ (q41.1 ((v36 + 3) + 4) ((((o : Int) * 9) + (z : Int))).toNat) ∧ (q41.1 ((v36 + 3) + 4) ((((o : Int) * 9) + (z : Int))).toNat) ≤ 2147483647) then ((gm_127 (q41.1 ((v36 + 3) + 4) ((((o : Int) * 9) + (z : Int))).toNat) (q41.1 ((v36 + 3) + 2) ((o : Int)).toNat) t q41).bind fun q52 => some (q52.1, q52.2)) else none) else none) else some ((-1), q41)) else none) else none) else none) := by
    unfold gm_98
    rw [c118, Option.bind_some, if_neg (fun q => (gbD s).mp q (by omega))]
    show ((gm_115 o s).bind _) = _
    rw [sp_115 s ho', Option.bind_some, if_neg (fun q => (gbD s).mp q (by omega)), if_pos (by omega), if_neg (by omega), if_pos (by omega)]
  obtain ⟨D, u, u1, u2, u3, u4, u5, u6⟩ := CV_ready (w := 2) (by omega) v.1 h7 hg c
  have u1 : gm_19 (71 + 48 * g) 2 s = some u := u1
  have tm := (u4.2.2.2.2.1 u5).2.1 o ho
  have e2 : u.1 (71 + 48 * g + 3 + 2) o = vt (PMV f R C g) o := tm.2.1
  have e4 : u.1 (71 + 48 * g + 3 + 4) (9 * o + z) = PMV f R C g o z := (tm.2.2 z hz).1
  obtain ⟨p1, p2⟩ := PA_mv v.1 h7 hg
  have r2 := vt_r p1 p2 ho
  have r4 := p1.2.1 o z ho hz
  have l4 : PMV f R C g o z ≤ vt (PMV f R C g) o := sg_at (f := fun y => PMV f R C g o y) (n := 9) (fun y hy => (p1.2.1 o y ho hy).1) z hz
  refine ⟨u, ?_, u2, v⟩
  obtain ⟨b, hb⟩ : ∃ b : Nat, vt (PMV f R C g) o = b := ⟨_, (Int.toNat_of_nonneg r2.1).symm⟩
  obtain ⟨p, hp⟩ : ∃ p : Nat, PMV f R C g o z = p := ⟨_, (Int.toNat_of_nonneg r4.1).symm⟩
  rw [hb] at r2 e2 l4 ⊢
  rw [hp] at r4 e4 l4 ⊢
  rw [if_pos (by omega), Option.bind_some, vg_ g hg, u1, Option.bind_some, if_pos (by omega), show ((o : Int)).toNat = o by omega, e2, if_pos (by omega), show ((o : Int) * 9 + (z : Int)).toNat = 9 * o + z by omega, e4] at s1
  rw [s1]
  by_cases d : b = 0
  · rw [if_neg (show ¬ ¬ (b : Int) = 0 by omega), if_pos (show (b : Int) = 0 by omega)]
  · rw [if_pos (show ¬ (b : Int) = 0 by omega), if_pos (by omega), if_pos (by omega), sp_127 u (by omega) (by omega) (by omega) ht', Option.bind_some, if_neg (show ¬ (b : Int) = 0 by omega), show ((p : Int)).toNat = p by omega, show ((b : Int)).toNat = b by omega]
end
