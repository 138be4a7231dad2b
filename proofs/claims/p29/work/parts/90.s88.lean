/-! QUERIES: share -/
theorem inv_share {s : gx_S} (h : INV s) {x o z t : Int} (hx : i32 x) (ho : i32 o) (hz : i32 z) (ht : i32 t) : two s (gm_98 x o z t) (gm_195 x o z t) := by
  obtain ⟨f, R, C, n, pf, L, tb, c, r, v⟩ := id h
  have hx' := hx
  have ho' := ho
  have hz' := hz
  have ht' := ht
  unfold i32 at hx' ho' hz' ht'
  have c118 := sp_118 c.1 v.1 hx hz
  have c148 : ∀ t : gx_S, gm_148 x t = _ := fun t => sp_148 t hx
  have c150 : ∀ t : gx_S, t.1 216 = f → gm_150 t = some (decide (f 2 = 7), t) := fun t et => by
    have := sp_150 (s := t) (by rw [et]; exact v.1.2.1)
    rw [et] at this
    exact this
  have c153 : ∀ t : gx_S, t.1 216 = f → gm_153 0 o t = some (decide (0 < NC f R C 0 o), t) := fun t et => by
    have := sp_153g (s := t) (R := R) (C := C) (by rw [et]; exact v.1) 0 o (by omega) ho'
    rw [et] at this
    exact this
  -- the class ahead of its tables
  have s1 : gm_98 x o z t s = if ((0 ≤ x ∧ x < 3) ∧ (0 ≤ z ∧ z ≤ 8) ∧ f 2 = 7) ∧ (0 ≤ o ∧ o < 8) ∧ (0 ≤ t ∧ t ≤ 1) then (if 0 ≤ x ∧ x < 3 then ((some (fx_rf 70 (x).toNat)).bind fun v36 => (gm_19 v36 2 s).bind fun q41 => if 0 ≤ o ∧ o < 8 then (if (-2147483648 ≤ (q41.1 ((v36 + 3) + 2) (o).toNat) ∧ (q41.1 ((v36 + 3) + 2) (o).toNat) ≤ 2147483647) then (if ¬ (q41.1 ((v36 + 3) + 2) (o).toNat) = 0 then (if 0 ≤ ((o * 9) + z) ∧ ((o * 9) + z) < 72 then (if (-2147483648 ≤ (q41.1 ((v36 + 3) + 4) (((o * 9) + z)).toNat) ∧ (q41.1 ((v36 + 3) + 4) (((o * 9) + z)).toNat) ≤ 2147483647) then ((gm_127 (q41.1 ((v36 + 3) + 4) (((o * 9) + z)).toNat) (q41.1 ((v36 + 3) + 2) (o).toNat) t q41).bind fun q52 => some (q52.1, q52.2)) else none) else none) else some ((-1), q41)) else none) else none) else none) else some (-1, s) := by
    unfold gm_98
    rw [c118, Option.bind_some]
    by_cases a : (0 ≤ x ∧ x < 3) ∧ (0 ≤ z ∧ z ≤ 8) ∧ f 2 = 7
    · rw [if_neg (fun q => (gbD s).mp q a)]
      show ((gm_115 o s).bind _) = _
      rw [sp_115 s ho, Option.bind_some]
      by_cases b : 0 ≤ o ∧ o < 8
      · rw [if_neg (fun q => (gbD s).mp q b), if_pos ht']
        by_cases d : t < 0
        · rw [if_pos d, if_neg (show ¬ (((0 ≤ x ∧ x < 3) ∧ (0 ≤ z ∧ z ≤ 8) ∧ f 2 = 7) ∧ (0 ≤ o ∧ o < 8) ∧ (0 ≤ t ∧ t ≤ 1)) by omega)]
        · rw [if_neg d]
          by_cases e : t ≤ 1
          · rw [if_pos e, if_pos (show ((0 ≤ x ∧ x < 3) ∧ (0 ≤ z ∧ z ≤ 8) ∧ f 2 = 7) ∧ (0 ≤ o ∧ o < 8) ∧ (0 ≤ t ∧ t ≤ 1) by omega)]
          · rw [if_neg e, if_neg (show ¬ (((0 ≤ x ∧ x < 3) ∧ (0 ≤ z ∧ z ≤ 8) ∧ f 2 = 7) ∧ (0 ≤ o ∧ o < 8) ∧ (0 ≤ t ∧ t ≤ 1)) by omega)]
      · rw [if_pos ((gbD s).mpr b), if_neg (show ¬ (((0 ≤ x ∧ x < 3) ∧ (0 ≤ z ∧ z ≤ 8) ∧ f 2 = 7) ∧ (0 ≤ o ∧ o < 8) ∧ (0 ≤ t ∧ t ≤ 1)) by omega)]
    · rw [if_pos ((gbD s).mpr a), if_neg (fun q => a q.1)]
  have s2 : ∀ y : gx_S, y.1 216 = f → gm_195 x o z t y = if (((0 ≤ x ∧ x < 3) ∧ (0 ≤ z ∧ z ≤ 8) ∧ f 2 = 7) ∧ (0 ≤ o ∧ o < 8) ∧ (0 ≤ t ∧ t ≤ 1)) ∧ 0 < NC f R C 0 o then ((gm_180 x o y).bind fun q54 => (gm_157 x o z (gb q54.1) q54.2).bind fun q56 => if (-2147483648 ≤ q56.1 ∧ q56.1 ≤ 2147483647) then ((gm_157 x o (-1) (gb q54.1) q56.2).bind fun q59 => if (-2147483648 ≤ q59.1 ∧ q59.1 ≤ 2147483647) then ((gm_194 q56.1 q59.1 t q59.2).bind fun q62 => some (q62.1, q62.2)) else none) else none) else some (-1, y) := fun y ey => by
    unfold gm_195
    rw [c150 y ey, Option.bind_some]
    by_cases h7 : f 2 = 7
    · rw [if_neg (fun q => (gbD s).mp q h7)]
      show ((gm_148 x y).bind _) = _
      rw [c148 y, Option.bind_some]
      by_cases a : 0 ≤ x ∧ x ≤ 2
      · rw [if_neg (fun q => (gbD s).mp q a), if_pos ho', in_ y ho (by omega) (by omega), Option.bind_some]
        by_cases b : 0 ≤ o ∧ o ≤ 7
        · rw [if_neg (fun q => (gbD s).mp q b)]
          show ((gm_153 0 o y).bind _) = _
          rw [c153 y ey, Option.bind_some]
          by_cases d : 0 < NC f R C 0 o
          · rw [if_neg (fun q => (gbD s).mp q d), if_pos hz', in_ y hz (by omega) (by omega), Option.bind_some]
            by_cases e : 0 ≤ z ∧ z ≤ 8
            · rw [if_neg (fun q => (gbD s).mp q e), if_pos ht', in_ y ht (by omega) (by omega), Option.bind_some]
              by_cases k : 0 ≤ t ∧ t ≤ 1
              · rw [if_pos (fun q => (gbD s).mp q k), if_pos ⟨⟨⟨by omega, e, h7⟩, by omega, k⟩, d⟩]
              · rw [if_neg (fun q => q ((gbD s).mpr k)), if_neg (fun q => k q.1.2.2)]
            · rw [if_pos ((gbD s).mpr e), if_neg (fun q => e q.1.1.2.1)]
          · rw [if_pos ((gbD s).mpr d), if_neg (fun q => d q.2)]
        · rw [if_pos ((gbD s).mpr b), if_neg (fun q => b (by have := q.1.2.1; omega))]
      · rw [if_pos ((gbD s).mpr a), if_neg (fun q => a (by have := q.1.1.1; omega))]
    · rw [if_pos ((gbD s).mpr h7), if_neg (fun q => h7 q.1.1.2.2)]
  by_cases ok : ((0 ≤ x ∧ x < 3) ∧ (0 ≤ z ∧ z ≤ 8) ∧ f 2 = 7) ∧ (0 ≤ o ∧ o < 8) ∧ (0 ≤ t ∧ t ≤ 1)
  · rw [if_pos ok] at s1
    obtain ⟨⟨a, hz8, h7⟩, ho8, ht1⟩ := id ok
    obtain ⟨g, rfl⟩ : ∃ g : Nat, x = g := ⟨x.toNat, by omega⟩
    obtain ⟨o, rfl⟩ : ∃ o' : Nat, o = o' := ⟨o.toNat, by omega⟩
    obtain ⟨z, rfl⟩ : ∃ z' : Nat, z = z' := ⟨z.toNat, by omega⟩
    have hg : g < 3 := by omega
    obtain ⟨D, u, u1, u2, u3, u4, u5, u6⟩ := CV_ready (w := 2) (by omega) v.1 h7 hg c
    have u1 : gm_19 (71 + 48 * g) 2 s = some u := u1
    have tm := (u4.2.2.2.2.1 u5).2.1 o (by omega)
    have kc : KC s u := KG_KC (ga_of hg) u3
    have ru := RV_KC kc r
    have eu : u.1 216 = f := ru.1
    have e2 : u.1 (71 + 48 * g + 3 + 2) o = SO f R C g o (-1) (decide (SO f R C g o (-1) false = 0)) := by
      rw [tm.2.1]
      exact SO_row v.1 h7 o _
    have e4 : u.1 (71 + 48 * g + 3 + 4) (9 * o + z) = SO f R C g o z (decide (SO f R C g o (-1) false = 0)) := (tm.2.2 z (by omega)).1
    have r2 := SO_r v.1 h7 hg o (-1) (decide (SO f R C g o (-1) false = 0))
    have r4 := SO_r v.1 h7 hg o z (decide (SO f R C g o (-1) false = 0))
    obtain ⟨b, hb⟩ : ∃ b : Nat, SO f R C g o (-1) (decide (SO f R C g o (-1) false = 0)) = b := ⟨_, (Int.toNat_of_nonneg r2.1).symm⟩
    obtain ⟨p, hp⟩ : ∃ p : Nat, SO f R C g o z (decide (SO f R C g o (-1) false = 0)) = p := ⟨_, (Int.toNat_of_nonneg r4.1).symm⟩
    have t0 := tot_0 (x := o) v.1 h7 hg
    rw [hb] at r2 t0 e2
    rw [hp] at r4 e4
    rw [if_pos a, Option.bind_some, vg_ g hg, u1, Option.bind_some, if_pos ho8, show ((o : Int)).toNat = o by omega, e2, if_pos (by omega), show ((o : Int) * 9 + (z : Int)).toNat = 9 * o + z by omega, e4] at s1
    have s2 := s2 u eu
    by_cases d : 0 < NC f R C 0 o
    · have b0 : 0 < b := by omega
      rw [if_pos (show ¬ (b : Int) = 0 by omega), if_pos (by omega), if_pos (by omega), sp_127 u (by omega) (by omega) b0 ht, Option.bind_some] at s1
      have Mu : MP (u.1 216) R C := by rw [eu]; exact v.1
      have hu : u.1 216 2 = 7 := by rw [eu]; exact h7
      rw [if_pos ⟨ok, d⟩, sp_180 Mu hu hg (show o < 9 by omega), Option.bind_some] at s2
      have s2 : gm_195 g o z t u = ((gm_157 g o z (gb (decide (SO (u.1 216) R C g o (-1) false = 0))) u).bind fun q56 => if (-2147483648 ≤ q56.1 ∧ q56.1 ≤ 2147483647) then ((gm_157 g o (-1) (gb (decide (SO (u.1 216) R C g o (-1) false = 0))) q56.2).bind fun q59 => if (-2147483648 ≤ q59.1 ∧ q59.1 ≤ 2147483647) then ((gm_194 q56.1 q59.1 t q59.2).bind fun q62 => some (q62.1, q62.2)) else none) else none) := s2
      rw [sp_157g Mu hu o z _ hg (by omega) (by omega), Option.bind_some, eu, hp] at s2
      have s2 : gm_195 g o z t u = (if (-2147483648 ≤ (p : Int) ∧ (p : Int) ≤ 2147483647) then ((gm_157 g o (-1) (gb (decide (SO f R C g o (-1) false = 0))) u).bind fun q59 => if (-2147483648 ≤ q59.1 ∧ q59.1 ≤ 2147483647) then ((gm_194 p q59.1 t q59.2).bind fun q62 => some (q62.1, q62.2)) else none) else none) := s2
      have c57 := sp_157g Mu hu (o : Int) (-1) (decide (SO f R C g o (-1) false = 0)) hg (by omega) (by omega)
      rw [eu, hb] at c57
      rw [if_pos (by omega), c57, Option.bind_some] at s2
      have s2 : gm_195 g o z t u = (if (-2147483648 ≤ (b : Int) ∧ (b : Int) ≤ 2147483647) then ((gm_194 p b t u).bind fun q62 => some (q62.1, q62.2)) else none) := s2
      rw [if_pos (by omega), sp_194 u (by omega) (by omega) b0 ht, Option.bind_some] at s2
      exact ⟨_, u, u, s1, s2, q_inv kc u2 r v (KRw_rf u)⟩
    · have b0 : b = 0 := by omega
      rw [if_neg (show ¬ ¬ (b : Int) = 0 by omega)] at s1
      rw [if_neg (fun q => d q.2)] at s2
      exact ⟨-1, u, u, s1, s2, q_inv kc u2 r v (KRw_rf u)⟩
  · rw [if_neg ok] at s1
    exact ⟨-1, s, s, s1, (s2 s r.1).trans (if_neg fun q => ok q.1), h⟩
