section
/-! QUERIES: share -/
theorem inv_share {s : gx_S} (h : INV s) {x o z t : Int} (hx : i32 x) (ho : i32 o) (hz : i32 z) (ht : i32 t) : two s (gm_98 x o z t) (gm_195 x o z t) := by
  obtain ⟨f, R, C, n, pf, L, tb, c, r, v⟩ := id h
  have hx' := hx
  have ho' := ho
  have hz' := hz
  have ht' := ht
  unfold i32 at hx' ho' hz' ht'
  have c118 := sp_118 c.1 v.1 hx hz
  have c148 : ∀ t : gx_S, gm_148 x t = _ := fun t => sp_148 t hx
  have c150 : ∀ t : gx_S, t.1 216 = f → gm_150 t = some (decide (f 2 = 7), t) := fun t et => by
    have := sp_150 (s := t) (by rw [et]; exact v.1.2.1)
    rw [et] at this
    exact this
  have c153 : ∀ t : gx_S, t.1 216 = f → gm_153 0 o t = some (decide (0 < NC f R C 0 o), t) := fun t et => by
    have := sp_153g (s := t) (R := R) (C := C) (by rw [et]; exact v.1) 0 o (by omega) ho'
    rw [et] at this
    exact this
  -- the class ahead of its tables
  have s1 : gm_98 x o z t s = if ((0 ≤ x ∧ x < 3) ∧ (0 ≤ z ∧ z ≤ 8) ∧ f 2 = 7) ∧ (0 ≤ o ∧ o < 8) ∧ (0 ≤ t ∧ t ≤ 1) then (if 0 ≤ x ∧ x < 3 then ((some (fx_rf 70 (x).toNat)).bind fun v36 => (gm_19 v36 2 s).bind fun q41 => if 0 ≤ o ∧ o < 8 then (if (-2147483648 ≤ (q41.1 ((v36 + 3) + 2) (o).toNat) ∧ (q41.1 ((v36 + 3) + 2) (o).toNat) ≤ 2147483647) then (if ¬ (q41.1 ((v36 + 3) + 2) (o).toNat) = 0 then (if 0 ≤ ((o * 9) + z) ∧ ((o * 9) + z) < 72 then (if (-2147483648 ≤ (q41.1 ((v36 + 3) + 4) (((o * 9) + z)).toNat) ∧ (q41.1 ((v36 + 3) + 4) (((o * 9) + z)).toNat) ≤ 2147483647) then ((gm_127 (q41.1 ((v36 + 3) + 4) (((o * 9) + z)).toNat) (q41.1 ((v36 + 3) + 2) (o).toNat) t q41).bind fun q52 => some (q52.1, q52.2)) else none) else none) else some ((-1), q41)) else none) else none) else none) else some (-1, s) := by
    unfold gm_98
    rw [c118, Option.bind_some]
    by_cases a : (0 ≤ x ∧ x < 3) ∧ (0 ≤ z ∧ z ≤ 8) ∧ f 2 = 7
    · rw [if_neg (fun q => (gbD s).mp q a)]
      show ((gm_115 o s).bind _) = _
      rw [sp_115 s ho, Option.bind_some]
      by_cases b : 0 ≤ o ∧ o < 8
      · rw [if_neg (fun q => (gbD s).mp q b), if_pos ht']
        by_cases d : t < 0
        · rw [if_pos d, if_neg (show ¬ (((0 ≤ x ∧ x < 3) ∧ (0 ≤ z ∧ z ≤ 8) ∧ f 2 = 7) ∧ (0 ≤ o ∧ o < 8) ∧ (0 ≤ t ∧ t ≤ 1)) by omega)]
        · rw [if_neg d]
          by_cases e : t ≤ 1
          · rw [if_pos e, if_pos (show ((0 ≤ x ∧ x < 3) ∧ (0 ≤ z ∧ z ≤ 8) ∧ f 2 = 7) ∧ (0 ≤ o ∧ o < 8) ∧ (0 ≤ t ∧ t ≤ 1) by omega)]
          · rw [if_neg e, if_neg (show ¬ (((0 ≤ x ∧ x < 3) ∧ (0 ≤ z ∧ z ≤ 8) ∧ f 2 = 7) ∧ (0 ≤ o ∧ o < 8) ∧ (0 ≤ t ∧ t ≤ 1)) by omega)]
      · rw [if_pos ((gbD s).mpr b), if_neg (show ¬ (((0 ≤ x ∧ x < 3) ∧ (0 ≤ z ∧ z ≤ 8) ∧ f 2 = 7) ∧ (0 ≤ o ∧ o < 8) ∧ (0 ≤ t ∧ t ≤ 1)) by omega)]
    · rw [if_pos ((gbD s).mpr a), if_neg (fun q => a q.1)]
  have s2 : ∀ y : gx_S, y.1 216 = f → gm_195 x o z t y = if (((0 ≤ x ∧ x < 3) ∧ (0 ≤ z ∧ z ≤ 8) ∧ f 2 = 7) ∧ (0 ≤ o ∧ o < 8) ∧ (0 ≤ t ∧ t ≤ 1)) ∧ 0 < NC f R C 0 o then ((gm_180 x o y).bind fun q54 => (gm_157 x o z (gb q54.1) q54.2).bind fun q56 => if (-2147483648 ≤ q56.1 ∧ q56.1 ≤ 2147483647) then ((gm_157 x o (-1) (gb q54.1) q56.2).bind fun q59 => if (-2147483648 ≤ q59.1 ∧ q59.1 ≤ 2147483647) then ((gm_194 q56.1 q59.1 t q59.2).bind fun q62 => some (q62.1, q62.2)) else none) else none) else some (-1, y) := fun y ey => by
    unfold gm_195
    rw [c150 y ey, Option.bind_some]
    by_cases h7 : f 2 = 7
    · rw [if_neg (fun q => (gbD s).mp q h7)]
      show ((gm_148 x y).bind _) = _
      rw [c148 y, Option.bind_some]
      by_cases a : 0 ≤ x ∧ x ≤ 2
      · rw [if_neg (fun q => (gbD s).mp q a), if_pos ho', in_ y ho (by omega) (by omega), Option.bind_some]
        by_cases b : 0 ≤ o ∧ o ≤ 7
        · rw [if_neg (fun q => (gbD s).mp q b)]
          show ((gm_153 0 o y).bind _) = _
          rw [c153 y ey, Option.bind_some]
          by_cases d : 0 < NC f R C 0 o
          · rw [if_neg (fun q => (gbD s).mp q d), if_pos hz', in_ y hz (by omega) (by omega), Option.bind_some]
            by_cases e : 0 ≤ z ∧ z ≤ 8
            · rw [if_neg (fun q => (gbD s).mp q e), if_pos ht', in_ y ht (by omega) (by omega), Option.bind_some]
              by_cases k : 0 ≤ t ∧ t ≤ 1
              · rw [if_pos (fun q => (gbD s).mp q k), if_pos ⟨⟨⟨by omega, e, h7⟩, by omega, k⟩, d⟩]
              · rw [if_neg (fun q => q ((gbD s).mpr k)), if_neg (fun q => k q.1.2.2)]
            · rw [if_pos ((gbD s).mpr e), if_neg (fun q => e q.1.1.2.1)]
          · rw [if_pos ((gbD s).mpr d), if_neg (fun q => d q.2)]
        · rw [if_pos ((gbD s).mpr b), if_neg (fun q => b (by have := q.1.2.1; omega))]
      · rw [if_pos ((gbD s).mpr a), if_neg (fun q => a (by have := q.1.1.1; omega))]
    · rw [if_pos ((gbD s).mpr h7), if_neg (fun q => h7 q.1.1.2.2)]
  by_cases ok : ((0 ≤ x ∧ x < 3) ∧ (0 ≤ z ∧ z ≤ 8) ∧ f 2 = 7) ∧ (0 ≤ o ∧ o < 8) ∧ (0 ≤ t ∧ t ≤ 1)
  · rw [if_pos ok] at s1
    obtain ⟨⟨a, hz8, h7⟩, ho8, ht1⟩ := id ok
    obtain ⟨g, rfl⟩ : ∃ g : Nat, x = g := ⟨x.toNat, by omega⟩
    obtain ⟨o, rfl⟩ : ∃ o' : Nat, o = o' := ⟨o.toNat, by omega⟩
    obtain ⟨z, rfl⟩ : ∃ z' : Nat, z = z' := ⟨z.toNat, by omega⟩
    have hg : g < 3 := by omega
    obtain ⟨D, u, u1, u2, u3, u4, u5, u6⟩ := CV_ready (w := 2) (by omega) v.1 h7 hg c
    have u1 : gm_19 (71 + 48 * g) 2 s = some u := u1
    have tm := (u4.2.2.2.2.1 u5).2.1 o (by omega)
    have kc : KC s u := KG_KC (ga_of hg) u3
    have ru := RV_KC kc r
    have eu : u.1 216 = f := ru.1
    have e2 : u.1 (71 + 48 * g + 3 + 2) o = SO f R C g o (-1) (decide (SO f R C g o (-1) false = 0)) := by
      rw [tm.2.1]
      exact SO_row v.1 h7 o _
    have e4 : u.1 (71 + 48 * g + 3 + 4) (9 * o + z) = SO f R C g o z (decide (SO f R C g o (-1) false = 0)) := (tm.2.2 z (by omega)).1
    have r2 := SO_r v.1 h7 hg o (-1) (decide (SO f R C g o (-1) false = 0))
    have r4 := SO_r v.1 h7 hg o z (decide (SO f R C g o (-1) false = 0))
    obtain ⟨b, hb⟩ : ∃ b : Nat, SO f R C g o (-1) (decide (SO f R C g o (-1) false = 0)) = b := ⟨_, (Int.toNat_of_nonneg r2.1).symm⟩
    obtain ⟨p, hp⟩ : ∃ p : Nat, SO f R C g o z (decide (SO f R C g o (-1) false = 0)) = p := ⟨_, (Int.toNat_of_nonneg r4.1).symm⟩
    have t0 := tot_0 (x := o) v.1 h7 hg
    rw [hb] at r2 t0 e2
    rw [hp] at r4 e4
    rw [if_pos a, Option.bind_some, vg_ g hg, u1, Option.bind_some, if_pos ho8, show ((o : Int)).toNat = o by omega, e2, if_pos (by omega), show ((o : Int) * 9 + (z : Int)).toNat = 9 * o + z by omega, e4] at s1
    have s2 := s2 u eu
    by_cases d : 0 < NC f R C 0 o
    · have b0 : 0 < b := by omega
      rw [if_pos (show ¬ (b : Int) = 0 by omega), if_pos (by omega), if_pos (by omega), sp_127 u (by omega) (by omega) b0 ht, Option.bind_some] at s1
      have Mu : MP (u.1 216) R C := by rw [eu]; exact v.1
      have hu : u.1 216 2 = 7 := by rw [eu]; exact h7
      rw [if_pos ⟨ok, d⟩, sp_180 Mu hu hg (show o < 9 by omega), Option.bind_some] at s2
      have s2 : gm_195 g o z t u = ((gm_157 g o z (gb (decide (SO (u.1 216) R C g o (-1) false = 0))) u).bind fun q56 => if (-2147483648 ≤ q56.1 ∧ q56.1 ≤ 2147483647) then ((gm_157 g o (-1) (gb (decide (SO (u.1 216) R C g o (-1) false = 0))) q56.2).bind fun q59 => if (-2147483648 ≤ q59.1 ∧ q59.1 ≤ 2147483647) then ((gm_194 q56.1 q59.1 t q59.2).bind fun q62 => some (q62.1, q62.2)) else none) else none) := s2
      rw [sp_157g Mu hu o z _ hg (by omega) (by omega), Option.bind_some, eu, hp] at s2
      have s2 : gm_195 g o z t u = (if (-2147483648 ≤ (p : Int) ∧ (p : Int) ≤ 2147483647) then ((gm_157 g o (-1) (gb (decide (SO f R C g o (-1) false = 0))) u).bind fun q59 => if (-2147483648 ≤ q59.1 ∧ q59.1 ≤ 2147483647) then ((gm_194 p q59.1 t q59.2).bind fun q62 => some (q62.1, q62.2)) else none) else none) := s2
      have c57 := sp_157g Mu hu (o : Int) (-1) (decide (SO f R C g o (-1) false = 0)) hg (by omega) (by omega)
      rw [eu, hb] at c57
      rw [if_pos (by omega), c57, Option.bind_some] at s2
      have s2 : gm_195 g o z t u = (if (-2147483648 ≤ (b : Int) ∧ (b : Int) ≤ 2147483647) then ((gm_194 p b t u).bind fun q62 => some (q62.1, q62.2)) else none) := s2
      rw [if_pos (by omega), sp_194 u (by omega) (by omega) b0 ht, Option.bind_some] at s2
      exact ⟨_, u, u, s1, s2, q_inv kc u2 r v (KRw_rf u)⟩
    · have b0 : b = 0 := by omega
      rw [if_neg (show ¬ ¬ (b : Int) = 0 by omega)] at s1
      rw [if_neg (fun q => d q.2)] at s2
      exact ⟨-1, u, u, s1, s2, q_inv kc u2 r v (KRw_rf u)⟩
  · rw [if_neg ok] at s1
    exact ⟨-1, s, s, s1, (s2 s r.1).trans (if_neg fun q => ok q.1), h⟩
end
section
/-! THE REFERENCE: what flows back -/
theorem sl_191_83 {f : Nat → Int} {R C g x : Nat} (k : Int → Int → gx_S → Option gx_S) (M : MP f R C) (h7 : f 2 = 7) (hg : g < 3) (hx : x < 8) (b : Bool) : ∀ (n y : Nat) (s : gx_S), 9 < n + y → y ≤ 9 → s.1 216 = f → ∃ u : gx_S, gm_191_83 k n g x (gb b) y s = k g ((x + 1 : Nat) : Int) u ∧ u.2 = s.2 ∧ (∀ k i, k ≠ 222 → u.1 k i = s.1 k i) ∧ (∀ y', y ≤ y' → y' < 9 → u.1 222 (9 * x + y') = SO f R C g y' x b) ∧ ∀ i, ¬ (9 * x + y ≤ i ∧ i < 9 * x + 9) → u.1 222 i = s.1 222 i := by
  intro n
  induction n with
  | zero => intro y s h; omega
  | succ n ih =>
    intro y s h hy ef
    rw [gm_191_83, if_pos (by omega)]
    by_cases q : y = 9
    · rw [if_pos (by omega)]
      exact ⟨s, rfl, rfl, fun _ _ _ => rfl, fun y' h1 h2 => by omega, fun _ _ => rfl⟩
    · have ce : ((y : Int) + 1) = ((y + 1 : Nat) : Int) := rfl
      have i1 : ((9 * (x : Int) + (y : Int))).toNat = 9 * x + y := by omega
      have c57 := sp_157g (s := s) (R := R) (C := C) (by rw [ef]; exact M) (by rw [ef]; exact h7) (y : Int) (x : Int) b hg (by omega) (by omega)
      rw [ef] at c57
      rw [if_neg (by omega), sp_160, Option.bind_some]
      show ∃ u : gx_S, ((gm_157 g y x (gb b) s).bind _) = k g ((x + 1 : Nat) : Int) u ∧ _
      rw [c57, Option.bind_some, if_pos (by omega), i1, ce]
      obtain ⟨u, u1, u2, u3, u4, u5⟩ := ih (y + 1) (gw1 s 222 (9 * x + y) (SO f R C g y x b)) (by omega) (by omega) (by
        funext i
        rw [gw1_1, if_neg (by omega), ef])
      refine ⟨u, u1, u2, fun k i h1 => by rw [u3 k i h1, gw1_1, if_neg (fun x => h1 x.1)], fun y' h1 h2 => ?_, fun i h1 => ?_⟩
      · by_cases e : y' = y
        · rw [e, u5 _ (by omega), gw1_1, if_pos ⟨rfl, rfl⟩]
        · exact u4 y' (by omega) h2
      · rw [u5 i (by omega), gw1_1, if_neg (by omega)]
theorem sl_191_44 {f P : Nat → Int} {R C g : Nat} (M : MP f R C) (h7 : f 2 = 7) (hg : g < 3) (hP : ∀ x, x < 8 → 0 ≤ P x ∧ P x ≤ 100000000) : ∀ (n x : Nat) (s : gx_S), 8 < n + x → x ≤ 8 → s.1 216 = f → (∀ z, z < 8 → s.1 239 z = P z) → ∃ u : gx_S, gm_191_44 n g x s = ((gm_173 u).bind fun q4 => some q4) ∧ (∀ k i, k ≠ 222 → u.1 k i = s.1 k i) ∧ (∀ k i, k ≠ 221 → u.2 k i = s.2 k i) ∧ (∀ x', x ≤ x' → x' < 8 → u.2 221 x' = P x' ∧ ∀ y, y < 9 → u.1 222 (9 * x' + y) = Abk f R C g x' y) ∧ (∀ i, i < x → u.2 221 i = s.2 221 i) ∧ ∀ i, i < 9 * x → u.1 222 i = s.1 222 i := by
  intro n
  induction n with
  | zero => intro x s h; omega
  | succ n ih =>
    intro x s h hx ef hl
    rw [gm_191_44, if_pos (by omega)]
    by_cases q : x = 8
    · rw [if_pos (by omega)]
      exact ⟨s, rfl, fun _ _ _ => rfl, fun _ _ _ => rfl, fun x' h1 h2 => by omega, fun _ _ => rfl, fun _ _ => rfl⟩
    · have i5 : ((x : Int)).toNat = x := by omega
      have lr := hP x (by omega)
      have e16 : (gw2 s 221 x (P x)).1 216 = f := ef
      have c57 := sp_157g (s := gw2 s 221 x (P x)) (R := R) (C := C) (by rw [e16]; exact M) (by rw [e16]; exact h7) (-1) (x : Int) false hg (by omega) (by omega)
      rw [e16] at c57
      have c57 : gm_157 g (-1) x 0 (gw2 s 221 x (P x)) = _ := c57
      have sr := SO_r M h7 hg (-1) (x : Int) false
      rw [if_neg (by omega), if_pos (by omega), i5, hl x (by omega), if_pos (by omega), if_pos (by omega), c57, Option.bind_some]
      show ∃ u : gx_S, (if (-2147483648 ≤ SO f R C g (-1) x false ∧ SO f R C g (-1) x false ≤ 2147483647) then (if ¬ SO f R C g (-1) x false = 0 then gm_191_79 (gm_191_44 n) g x 0 (gw2 s 221 x (P x)) else gm_191_79 (gm_191_44 n) g x 1 (gw2 s 221 x (P x))) else none) = _ ∧ _
      rw [if_pos (by omega)]
      have st : (if ¬ SO f R C g (-1) x false = 0 then gm_191_79 (gm_191_44 n) g x 0 (gw2 s 221 x (P x)) else gm_191_79 (gm_191_44 n) g x 1 (gw2 s 221 x (P x))) = gm_191_83 (gm_191_44 n) 100000 g x (gb (decide (SO f R C g (-1) x false = 0))) 0 (gw2 s 221 x (P x)) := by
        by_cases z : SO f R C g (-1) x false = 0
        · rw [if_neg (fun t => t z), decide_eq_true z]
          rfl
        · rw [if_pos z, decide_eq_false z]
          rfl
      obtain ⟨t, t1, t2, t3, t4, t5⟩ := sl_191_83 (gm_191_44 n) M h7 hg (show x < 8 by omega) (decide (SO f R C g (-1) x false = 0)) 100000 0 (gw2 s 221 x (P x)) (by omega) (by omega) e16
      have t1 : gm_191_83 (gm_191_44 n) 100000 g x (gb (decide (SO f R C g (-1) x false = 0))) 0 (gw2 s 221 x (P x)) = gm_191_44 n g ((x + 1 : Nat) : Int) t := t1
      rw [st, t1]
      have tk : ∀ k i, k ≠ 222 → t.1 k i = s.1 k i := fun k i h1 => t3 k i h1
      obtain ⟨u, u1, u2, u3, u4, u5, u6⟩ := ih (x + 1) t (by omega) (by omega) (by
        funext i
        rw [tk 216 i (by decide), ef]) (fun z hz => by rw [tk 239 z (by decide)]; exact hl z hz)
      refine ⟨u, u1, fun k i h1 => (u2 k i h1).trans (tk k i h1), fun k i h1 => ?_, fun x' h1 h2 => ?_, fun i h1 => ?_, fun i h1 => ?_⟩
      · rw [u3 k i h1, t2, gw2_2, if_neg (fun x => h1 x.1)]
      · by_cases e : x' = x
        · rw [e]
          refine ⟨?_, fun y hy => ?_⟩
          · rw [u5 x (by omega), t2, gw2_2, if_pos ⟨rfl, rfl⟩]
          · rw [u6 _ (by omega), t4 y (by omega) hy]
            rfl
        · exact u4 x' (by omega) h2
      · rw [u5 i (by omega), t2, gw2_2, if_neg (by omega)]
      · rw [u6 i (by omega), t5 i (by omega)]
        rfl
theorem sl_191_11 {g : Nat} : ∀ (n x : Nat) (s : gx_S), 8 < n + x → x ≤ 8 → s.1 215 17 = 8 → ∃ u : gx_S, gm_191_11 n g x s = ((gm_159 8 9 u).bind fun q4 => gm_191_44 100000 g 0 q4) ∧ u.2 = s.2 ∧ (∀ k i, k ≠ 239 → u.1 k i = s.1 k i) ∧ ∀ j, u.1 239 j = if x ≤ j ∧ j < 8 then sg (fun r => s.2 224 (9 * r + j)) 8 else s.1 239 j := by
  intro n
  induction n with
  | zero => intro x s h; omega
  | succ n ih =>
    intro x s h hx e17
    rw [gm_191_11, if_pos (by omega)]
    by_cases q : x = 8
    · rw [if_pos (by omega)]
      exact ⟨s, rfl, rfl, fun _ _ _ => rfl, fun j => by rw [if_neg (by omega)]⟩
    · have ce : ((x : Int) + 1) = ((x + 1 : Nat) : Int) := rfl
      have i5 : ((x : Int)).toNat = x := by omega
      rw [if_neg (by omega), sp_183 (R := 8) e17 (by omega) (show x < 9 by omega), Option.bind_some, if_pos (by omega), i5, ce]
      obtain ⟨u, u1, u2, u3, u4⟩ := ih (x + 1) (gw1 s 239 x (sg (fun r => s.2 224 (9 * r + x)) 8)) (by omega) (by omega) (by rw [gw1_1, if_neg (by omega)]; exact e17)
      refine ⟨u, u1, u2, fun k i h1 => by rw [u3 k i h1, gw1_1, if_neg (fun x => h1 x.1)], fun j => ?_⟩
      rw [u4, gw1_1]
      by_cases y : j = x
      · rw [if_neg (by omega), if_pos ⟨rfl, y⟩, if_pos (by omega), y]
      · by_cases y2 : x + 1 ≤ j ∧ j < 8
        · rw [if_pos y2, if_pos (show x ≤ j ∧ j < 8 by omega)]
          rfl
        · rw [if_neg y2, if_neg (fun t => y t.2), if_neg (show ¬ (x ≤ j ∧ j < 8) by omega)]
/-- scratch of the reference alone -/
theorem KRw_of {s u : gx_S} (h1 : ∀ k j, ¬ (215 ≤ k) ∨ k = 216 ∨ k = 217 ∨ k = 218 ∨ (k = 215 ∧ (j = 2 ∨ j = 4)) ∨ (232 ≤ k ∧ k ≤ 235) → u.1 k j = s.1 k j) (h2 : ∀ k j, k ≠ 221 → u.2 k j = s.2 k j) : KRw s u := ⟨fun k j q => h1 k j (by omega), fun k j q => h2 k j (by omega), fun S => ⟨fun j hj => by rw [h1 232 j (by omega), h1 233 j (by omega), h1 234 j (by omega), h2 225 j (by decide)]; exact S.1 j hj, fun c hc => by rw [h1 235 c (by omega), h2 229 c (by decide), h2 230 c (by decide), h2 227 c (by decide), h2 228 c (by decide)]; exact S.2.1 c hc, fun k hk => by rw [h2 231 k (by decide)]; exact S.2.2 k hk⟩⟩
theorem sp_191 {s : gx_S} {R C g : Nat} (M : MP (s.1 216) R C) (h7 : s.1 216 2 = 7) (hg : g < 3) (S : SC s) : ∃ w : gx_S, gm_191 g s = some w ∧ KRw s w ∧ w.1 215 17 = 8 ∧ w.1 215 18 = 9 ∧ ∀ x y, x < 8 → y < 9 → w.2 224 (9 * x + y) = TB (s.1 216 3) (Pbk (s.1 216) R C g) (Abk (s.1 216) R C g) x y := by
  obtain ⟨a, b, a1, b1, a2, b2, b3, b4, b5⟩ := sp_181f M h7 hg S
  obtain ⟨c, c1, c2, c3, c4⟩ := sl_191_11 (g := g) 100000 0 b (by omega) (by omega) b3
  have c1 : gm_191_11 100000 g 0 b = _ := c1
  have cK : KRw b c := KRw_of (fun k j q => c3 k j (by omega)) fun k j _ => by rw [c2]
  obtain ⟨d, d1, d2, d3, d4, d5, d6, d7⟩ := KR_159 c 8 9
  have Kd : KRw s d := KRw_tr (KR_w b2) (KRw_tr cK (KR_w d2))
  obtain ⟨p1, p2⟩ := PA_bk M h7 hg
  have d39 : ∀ z, z < 8 → d.1 239 z = Pbk (s.1 216) R C g z := fun z hz => by
    rw [d6 239 z (by decide) (by decide), c4, if_pos (by omega)]
    exact sg_eq fun r hr => ((b5 r hr).2.2 z (by omega)).2
  obtain ⟨u, u1, u2, u3, u4, u5, u6⟩ := sl_191_44 M h7 hg p1.1 100000 0 d (by omega) (by omega) (KRw_216 Kd) d39
  have u1 : gm_191_44 100000 g 0 d = _ := u1
  have uK : KRw d u := KRw_of (fun k j q => u2 k j (by omega)) u3
  have Ku := KRw_tr Kd uK
  obtain ⟨w, w1, w2, w3, w4, w5, w6⟩ := TB_ref (md := s.1 216 3) (r := u) (R := 8) (m := 9) M.2.2.1 p1 (Ku.2.2 S) (by rw [u2 215 17 (by decide)]; exact d3) (by rw [u2 215 18 (by decide)]; exact d4) (by omega) (by omega) (fun _ => p2) (by rw [KRw_216 Ku]) (fun x hx => (u4 x (by omega) hx).1) (fun x y hx hy => (u4 x (by omega) hx).2 y hy) (fun x y hx hy hn => absurd ⟨hx, hy⟩ hn)
  refine ⟨w, ?_, KRw_tr Ku (KR_w (KR_rc w3 w4)), ?_, ?_, fun x y hx hy => w2 x y hx hy⟩
  · unfold gm_191
    rw [a1, Option.bind_some, b1, Option.bind_some, c1, d1, Option.bind_some, u1, w1, Option.bind_some]
  · rw [w3.1 215 17 (by decide) (by decide) (by decide) (by decide) (by decide), u2 215 17 (by decide)]
    exact d3
  · rw [w3.1 215 18 (by decide) (by decide) (by decide) (by decide) (by decide), u2 215 18 (by decide)]
    exact d4
theorem inv_returned {s : gx_S} (h : INV s) {x z : Int} (hx : i32 x) (hz : i32 z) : two s (gm_104 x z) (gm_192 x z) := by
  obtain ⟨f, R, C, n, pf, L, tb, c, r, v⟩ := id h
  have hx' := hx
  have hz' := hz
  unfold i32 at hx' hz'
  have c118 := sp_118 c.1 v.1 hx hz
  have c150 : ∀ t : gx_S, t.1 216 = f → gm_150 t = some (decide (f 2 = 7), t) := fun t et => by
    have := sp_150 (s := t) (by rw [et]; exact v.1.2.1)
    rw [et] at this
    exact this
  have s2 : ∀ y : gx_S, y.1 216 = f → gm_192 x z y = if (0 ≤ x ∧ x < 3) ∧ (0 ≤ z ∧ z ≤ 8) ∧ f 2 = 7 then ((gm_191 x y).bind fun q26 => (gm_183 z q26).bind fun q28 => some (q28.1, q28.2)) else some (-1, y) := fun y ey => by
    unfold gm_192
    rw [c150 y ey, Option.bind_some]
    by_cases h7 : f 2 = 7
    · rw [if_neg (fun q => (gbD s).mp q h7)]
      show ((gm_148 x y).bind _) = _
      rw [sp_148 y hx, Option.bind_some]
      by_cases a : 0 ≤ x ∧ x ≤ 2
      · rw [if_neg (fun q => (gbD s).mp q a), if_pos hz', in_ y hz (by omega) (by omega), Option.bind_some]
        by_cases b : 0 ≤ z ∧ z ≤ 8
        · rw [if_pos (fun q => (gbD s).mp q b), if_pos ⟨by omega, b, h7⟩]
        · rw [if_neg (fun q => q ((gbD s).mpr b)), if_neg (fun q => b q.2.1)]
      · rw [if_pos ((gbD s).mpr a), if_neg (fun q => a (by have := q.1; omega))]
    · rw [if_pos ((gbD s).mpr h7), if_neg (fun q => h7 q.2.2)]
  unfold two gm_104
  rw [c118, Option.bind_some]
  by_cases ok : (0 ≤ x ∧ x < 3) ∧ (0 ≤ z ∧ z ≤ 8) ∧ f 2 = 7
  · obtain ⟨a, b, h7⟩ := id ok
    obtain ⟨g, rfl⟩ : ∃ g : Nat, x = g := ⟨x.toNat, by omega⟩
    obtain ⟨z, rfl⟩ : ∃ z' : Nat, z = z' := ⟨z.toNat, by omega⟩
    have hg : g < 3 := by omega
    obtain ⟨D, u, u1, u2, u3, u4, u5, u6⟩ := CV_ready (w := 4) (by omega) v.1 h7 hg c
    have u1 : gm_19 (71 + 48 * g) 4 s = some u := u1
    have tm := u4.2.2.2.2.2.1 u5
    have kc : KC s u := KG_KC (ga_of hg) u3
    have ru := RV_KC kc r
    have eu : u.1 216 = f := ru.1
    obtain ⟨w, w1, w2, w3, w4, w5⟩ := sp_191 (s := u) (R := R) (C := C) (g := g) (by rw [eu]; exact v.1) (by rw [eu]; exact h7) hg ru.2.2.2.2
    rw [eu] at w5
    have s2 := s2 u eu
    rw [if_pos ok, w1, Option.bind_some, sp_183 (R := 8) w3 (by omega) (show z < 9 by omega), Option.bind_some] at s2
    rw [if_pos (fun q => (gbD s).mp q ok), if_pos a, Option.bind_some, vg_ g hg]
    show ∃ (r' : Int) (u' w : gx_S), ((gm_19 (71 + 48 * g) 4 s).bind _) = some (r', u') ∧ _
    rw [u1, Option.bind_some, sp_76 (ga_of hg).2.2.2.2.1 (show z < 9 by omega), Option.bind_some]
    refine ⟨_, u, w, rfl, ?_, q_inv kc u2 r v w2⟩
    rw [s2]
    have e : sg (fun x => w.2 224 (9 * x + z)) 8 = sg (fun x => u.1 (71 + 48 * g + 12 + 8) (9 * x + z)) 8 := sg_eq fun x hx => by
      rw [w5 x z hx (by omega), ((tm x hx).2.2 z (by omega)).2.2.2]
    show some (sg (fun x => w.2 224 (9 * x + z)) 8, w) = _
    rw [e]
  · rw [if_neg (fun q => q ((gbD s).mpr ok))]
    exact ⟨-1, s, s, rfl, (s2 s r.1).trans (if_neg ok), h⟩
end
section
/-! QUERIES: astray -/
def ab_ (x : Int) : Int := if 0 ≤ x then x else 0 - x
theorem sl_105 {a : Nat} {s : gx_S} {P : Nat → Int} {G : Nat → Nat → Int} (ht : fx_oc (a + 12) 7 = true) (hP : ∀ x, x < 8 → s.1 (a + 1) x = P x) (hG : ∀ x y, x < 8 → y < 9 → s.1 (a + 12 + 8) (9 * x + y) = G x y) (hb : ∀ x, x < 8 → -2147483648 ≤ P x - sg (fun r => G r x) 8 ∧ P x - sg (fun r => G r x) 8 ≤ 2147483647) : ∀ (n x : Nat), 8 < n + x → x ≤ 8 → gm_105_37 n a (sg (fun x => ab_ (P x - sg (fun r => G r x) 8)) x) x s = some (sg (fun x => ab_ (P x - sg (fun r => G r x) 8)) 8, s) := by
  intro n
  induction n with
  | zero => intro x h; omega
  | succ n ih =>
    intro x h hx
    rw [gm_105_37, if_pos (by omega)]
    by_cases q : x = 8
    · rw [if_pos (by omega), q]
    · have ce : ((x : Int) + 1) = ((x + 1 : Nat) : Int) := rfl
      have i5 : ((x : Int)).toNat = x := by omega
      have e : sg (fun r => s.1 (a + 12 + 8) (9 * r + x)) 8 = sg (fun r => G r x) 8 := sg_eq fun r hr => hG r x hr (by omega)
      rw [if_neg (by omega), if_pos (by omega), sp_76 ht (show x < 9 by omega), Option.bind_some, i5, hP x (by omega), e, if_pos (hb x (by omega)), ce]
      exact ih (x + 1) (by omega) (by omega)
theorem sl_193_55 {s : gx_S} {P Q : Nat → Int} (hP : ∀ x, x < 8 → s.1 236 x = P x) (hQ : ∀ x, x < 8 → s.1 239 x = Q x) (hb : ∀ x, x < 8 → -2147483648 ≤ P x - Q x ∧ P x - Q x ≤ 2147483647) : ∀ (n x : Nat), 8 < n + x → x ≤ 8 → gm_193_55 n (sg (fun x => ab_ (P x - Q x)) x) x s = some (sg (fun x => ab_ (P x - Q x)) 8, s) := by
  intro n
  induction n with
  | zero => intro x h; omega
  | succ n ih =>
    intro x h hx
    rw [gm_193_55, if_pos (by omega)]
    by_cases q : x = 8
    · rw [if_pos (by omega), q]
    · have ce : ((x : Int) + 1) = ((x + 1 : Nat) : Int) := rfl
      have i5 : ((x : Int)).toNat = x := by omega
      rw [if_neg (by omega), if_pos (by omega), if_pos (by omega), i5, hP x (by omega), hQ x (by omega), if_pos (hb x (by omega)), ce]
      exact ih (x + 1) (by omega) (by omega)
theorem sl_193_23 {g : Nat} : ∀ (n x : Nat) (s : gx_S), 8 < n + x → x ≤ 8 → s.1 215 17 = 8 → ∃ u : gx_S, gm_193_23 n g x s = ((gm_177 g u).bind fun q4 => gm_193_55 100000 0 0 q4) ∧ u.2 = s.2 ∧ (∀ k i, k ≠ 239 → u.1 k i = s.1 k i) ∧ ∀ j, u.1 239 j = if x ≤ j ∧ j < 8 then sg (fun r => s.2 224 (9 * r + j)) 8 else s.1 239 j := by
  intro n
  induction n with
  | zero => intro x s h; omega
  | succ n ih =>
    intro x s h hx e17
    rw [gm_193_23, if_pos (by omega)]
    by_cases q : x = 8
    · rw [if_pos (by omega)]
      exact ⟨s, rfl, rfl, fun _ _ _ => rfl, fun j => by rw [if_neg (by omega)]⟩
    · have ce : ((x : Int) + 1) = ((x + 1 : Nat) : Int) := rfl
      have i5 : ((x : Int)).toNat = x := by omega
      rw [if_neg (by omega), sp_183 (R := 8) e17 (by omega) (show x < 9 by omega), Option.bind_some, if_pos (by omega), i5, ce]
      obtain ⟨u, u1, u2, u3, u4⟩ := ih (x + 1) (gw1 s 239 x (sg (fun r => s.2 224 (9 * r + x)) 8)) (by omega) (by omega) (by rw [gw1_1, if_neg (by omega)]; exact e17)
      refine ⟨u, u1, u2, fun k i h1 => by rw [u3 k i h1, gw1_1, if_neg (fun x => h1 x.1)], fun j => ?_⟩
      rw [u4, gw1_1]
      by_cases y : j = x
      · rw [if_neg (by omega), if_pos ⟨rfl, y⟩, if_pos (by omega), y]
      · by_cases y2 : x + 1 ≤ j ∧ j < 8
        · rw [if_pos y2, if_pos (show x ≤ j ∧ j < 8 by omega)]
          rfl
        · rw [if_neg y2, if_neg (fun t => y t.2), if_neg (show ¬ (x ≤ j ∧ j < 8) by omega)]
theorem inv_astray {s : gx_S} (h : INV s) {x : Int} (hx : i32 x) : two s (gm_105 x) (gm_193 x) := by
  obtain ⟨f, R, C, n, pf, L, tb, c, r, v⟩ := id h
  have hx' := hx
  unfold i32 at hx'
  have e6 : s.1 1 6 = f 2 := c.1.2.2.1
  have c57 := sp_57 (s := s) (a := 1) (by decide +kernel) (by rw [e6]; exact v.1.2.1)
  rw [e6] at c57
  have c150 : ∀ t : gx_S, t.1 216 = f → gm_150 t = some (decide (f 2 = 7), t) := fun t et => by
    have := sp_150 (s := t) (by rw [et]; exact v.1.2.1)
    rw [et] at this
    exact this
  have s2 : ∀ y : gx_S, y.1 216 = f → gm_193 x y = if (0 ≤ x ∧ x < 3) ∧ f 2 = 7 then ((gm_191 x y).bind fun q34 => gm_193_23 100000 x 0 q34) else some (-1, y) := fun y ey => by
    unfold gm_193
    rw [c150 y ey, Option.bind_some]
    by_cases h7 : f 2 = 7
    · rw [if_neg (fun q => (gbD s).mp q h7)]
      show ((gm_148 x y).bind _) = _
      rw [sp_148 y hx, Option.bind_some]
      by_cases a : 0 ≤ x ∧ x ≤ 2
      · rw [if_pos (fun q => (gbD s).mp q a), if_pos ⟨by omega, h7⟩]
      · rw [if_neg (fun q => q ((gbD s).mpr a)), if_neg (fun q => a (by have := q.1; omega))]
    · rw [if_pos ((gbD s).mpr h7), if_neg (fun q => h7 q.2)]
  have s1 : gm_105 x s = if (0 ≤ x ∧ x < 3) ∧ f 2 = 7 then (if 0 ≤ x ∧ x < 3 then ((some (fx_rf 70 (x).toNat)).bind fun v27 => (gm_19 v27 4 s).bind fun q32 => gm_105_37 100000 v27 0 0 q32) else none) else some (-1, s) := by
    unfold gm_105
    rw [sp_114 s hx, Option.bind_some]
    by_cases a : 0 ≤ x ∧ x < 3
    · rw [if_neg (fun q => (gbD s).mp q a)]
      show ((gm_57 1 s).bind _) = _
      rw [c57, Option.bind_some]
      by_cases h7 : f 2 = 7
      · rw [if_pos (fun q => (gbD s).mp q h7), if_pos (show (0 ≤ x ∧ x < 3) ∧ f 2 = 7 from ⟨a, h7⟩)]
      · rw [if_neg (fun q => q ((gbD s).mpr h7)), if_neg (fun q => h7 q.2)]
    · rw [if_pos ((gbD s).mpr a), if_neg (fun q => a q.1)]
  by_cases ok : (0 ≤ x ∧ x < 3) ∧ f 2 = 7
  · obtain ⟨a, h7⟩ := id ok
    obtain ⟨g, rfl⟩ : ∃ g : Nat, x = g := ⟨x.toNat, by omega⟩
    have hg : g < 3 := by omega
    obtain ⟨D, u, u1, u2, u3, u4, u5, u6⟩ := CV_ready (w := 4) (by omega) v.1 h7 hg c
    have u1 : gm_19 (71 + 48 * g) 4 s = some u := u1
    have tm := u4.2.2.2.2.2.1 u5
    have lv := (u4.2.2.2.1 (u6 (by omega)).2).1
    have kc : KC s u := KG_KC (ga_of hg) u3
    have ru := RV_KC kc r
    have eu : u.1 216 = f := ru.1
    obtain ⟨p1, p2⟩ := PA_bk v.1 h7 hg
    obtain ⟨b1, b2⟩ := TB_0 (md := f 3) v.1.2.2.1 p1 (fun _ => p2)
    obtain ⟨l1, l2⟩ := LV_r v.1 hg
    have lb : ∀ x, x < 8 → 0 ≤ LV f R C g x ∧ LV f R C g x ≤ 100000000 := (PA_mv v.1 h7 hg).1.1
    have cb8 : ∀ x, x < 8 → 0 ≤ sg (fun r => TB (f 3) (Pbk f R C g) (Abk f R C g) r x) 8 ∧ sg (fun r => TB (f 3) (Pbk f R C g) (Abk f R C g) r x) 8 ≤ 800000072 := fun x hx => by
      refine ⟨sg_nn fun r hr => (b1 r x hr (by omega)).1, ?_⟩
      exact Int.le_trans (sg_le (g := fun _ => 100000009) fun r hr => by
        have := (b1 r x hr (by omega)).2
        have := (p1.1 r hr).2
        show TB (f 3) (Pbk f R C g) (Abk f R C g) r x ≤ 100000009
        omega) (by decide)
    have hb : ∀ x, x < 8 → -2147483648 ≤ LV f R C g x - sg (fun r => TB (f 3) (Pbk f R C g) (Abk f R C g) r x) 8 ∧ LV f R C g x - sg (fun r => TB (f 3) (Pbk f R C g) (Abk f R C g) r x) 8 ≤ 2147483647 := fun x hx => by
      have := lb x hx
      have := cb8 x hx
      omega
    have t1 := sl_105 (a := 71 + 48 * g) (s := u) (ga_of hg).2.2.2.2.1 lv (fun x y hx hy => ((tm x hx).2.2 y hy).2.2.2) hb 100000 0 (by omega) (by omega)
    have t1 : gm_105_37 100000 (71 + 48 * g) 0 0 u = _ := t1
    obtain ⟨w, w1, w2, w3, w4, w5⟩ := sp_191 (s := u) (R := R) (C := C) (g := g) (by rw [eu]; exact v.1) (by rw [eu]; exact h7) hg ru.2.2.2.2
    rw [eu] at w5
    obtain ⟨y, y1, y2, y3, y4⟩ := sl_193_23 (g := g) 100000 0 w (by omega) (by omega) w3
    have y1 : gm_193_23 100000 g 0 w = _ := y1
    have yK : KRw w y := KRw_of (fun k j q => y3 k j (by omega)) fun k j _ => by rw [y2]
    have Ky := KRw_tr w2 yK
    have ey : y.1 216 = f := (KRw_216 Ky).trans eu
    obtain ⟨z, z1, z2, z3⟩ := sp_177 (s := y) (R := R) (C := C) (g := g) (by rw [ey]; exact v.1) hg
    rw [ey] at z2
    have z39 : ∀ x, x < 8 → z.1 239 x = sg (fun r => TB (f 3) (Pbk f R C g) (Abk f R C g) r x) 8 := fun x hx => by
      rw [z3.1 239 x (by omega), y4, if_pos (by omega)]
      exact sg_eq fun r hr => w5 r x hr (by omega)
    have t2 := sl_193_55 z2 z39 hb 100000 0 (by omega) (by omega)
    have t2 : gm_193_55 100000 0 0 z = _ := t2
    have s2 := s2 u eu
    rw [if_pos ok, w1, Option.bind_some, y1, z1, Option.bind_some, t2] at s2
    rw [if_pos ok, if_pos a, Option.bind_some, vg_ g hg, u1, Option.bind_some, t1] at s1
    exact ⟨_, u, z, s1, s2, q_inv kc u2 r v (KRw_tr Ky (KR_w z3))⟩
  · rw [if_neg ok] at s1
    exact ⟨-1, s, s, s1, (s2 s r.1).trans (if_neg ok), h⟩
end
section
/-! THE REFERENCE: coarse parts -/
theorem dsc_r_ {f : Nat → Int} {R C y : Nat} (M : MP f R C) (hy : y < 9) : 0 ≤ dsc f y ∧ dsc f y ≤ 4 := by
  have m := M.2.2.2.2.2.2.1
  unfold dsc
  by_cases e : y = 8
  · rw [if_pos e]
    omega
  · rw [if_neg e]
    have := m y (by omega)
    omega
theorem sp_186 {s : gx_S} {f : Nat → Int} {y : Nat} (e : s.1 216 = f) (hy : y < 9) : gm_186 y s = some (dsc f y, s) := by
  unfold gm_186 dsc
  rw [if_pos (by omega)]
  by_cases q : y = 8
  · rw [if_neg (by omega), if_pos q]
  · rw [if_pos (by omega), if_neg q, if_pos (by omega), show (44 + (y : Int)).toNat = 44 + y by omega, e]
/-- the parts by district, up to column y -/
def dpt (f : Nat → Int) (A : Nat → Int) (d y : Nat) : Int := sg (fun y => if dsc f y = (d : Int) then A y else 0) y
theorem sl_187_91 {k : Int → gx_S → Option gx_S} {x : Nat} (hx : x < 8) : ∀ (n d : Nat) (s : gx_S), 5 < n + d → d ≤ 5 → ∃ u : gx_S, gm_187_91 k n x d s = k ((x + 1 : Nat) : Int) u ∧ u.2 = s.2 ∧ (∀ k i, k ≠ 222 → u.1 k i = s.1 k i) ∧ (∀ j, d ≤ j → j < 5 → u.1 222 (9 * x + j) = s.1 237 j) ∧ ∀ i, ¬ (9 * x + d ≤ i ∧ i < 9 * x + 5) → u.1 222 i = s.1 222 i := by
  intro n
  induction n with
  | zero => intro d s h; omega
  | succ n ih =>
    intro d s h hd
    rw [gm_187_91, if_pos (by omega)]
    by_cases q : d = 5
    · rw [if_pos (by omega)]
      exact ⟨s, rfl, rfl, fun _ _ _ => rfl, fun j h1 h2 => by omega, fun _ _ => rfl⟩
    · have ce : ((d : Int) + 1) = ((d + 1 : Nat) : Int) := rfl
      have i1 : ((9 * (x : Int) + (d : Int))).toNat = 9 * x + d := by omega
      have i2 : ((d : Int)).toNat = d := by omega
      rw [if_neg (by omega), sp_160, Option.bind_some, if_pos (by omega)]
      show ∃ u : gx_S, (if 0 ≤ (9 * (x : Int) + (d : Int)) ∧ (9 * (x : Int) + (d : Int)) < 72 then gm_187_91 k n x ((d : Int) + 1) (gw1 s 222 ((9 * (x : Int) + (d : Int))).toNat (s.1 237 ((d : Int)).toNat)) else none) = _ ∧ _
      rw [if_pos (by omega), i1, i2, ce]
      obtain ⟨u, u1, u2, u3, u4, u5⟩ := ih (d + 1) (gw1 s 222 (9 * x + d) (s.1 237 d)) (by omega) (by omega)
      refine ⟨u, u1, u2, fun k i h1 => by rw [u3 k i h1, gw1_1, if_neg (fun x => h1 x.1)], fun j h1 h2 => ?_, fun i h1 => ?_⟩
      · by_cases e : j = d
        · rw [e, u5 _ (by omega), gw1_1, if_pos ⟨rfl, rfl⟩]
        · rw [u4 j (by omega) h2, gw1_1, if_neg (by omega)]
      · rw [u5 i (by omega), gw1_1, if_neg (by omega)]
theorem sl_187_41 {f : Nat → Int} {R C x : Nat} {A : Nat → Int} {k : Int → gx_S → Option gx_S} (M : MP f R C) (hx : x < 8) : ∀ (n y : Nat) (s : gx_S), 9 < n + y → y ≤ 9 → s.1 216 = f → (∀ j, y ≤ j → j < 9 → s.1 222 (9 * x + j) = A j) → (∀ d, d < 5 → s.1 237 d = dpt f A d y) → ∃ u : gx_S, gm_187_41 k n x y s = gm_187_91 k 100000 x 0 u ∧ u.2 = s.2 ∧ (∀ k i, k ≠ 222 → k ≠ 237 → u.1 k i = s.1 k i) ∧ (∀ d, d < 5 → u.1 237 d = dpt f A d 9) ∧ ∀ i, ¬ (9 * x + y ≤ i ∧ i < 9 * x + 9) → u.1 222 i = s.1 222 i := by
  intro n
  induction n with
  | zero => intro y s h; omega
  | succ n ih =>
    intro y s h hy ef hA hd
    rw [gm_187_41, if_pos (by omega)]
    by_cases q : y = 9
    · rw [if_pos (by omega)]
      exact ⟨s, rfl, rfl, fun _ _ _ _ => rfl, fun d h1 => by rw [hd d h1, q], fun _ _ => rfl⟩
    · have ce : ((y : Int) + 1) = ((y + 1 : Nat) : Int) := rfl
      have i1 : ((9 * (x : Int) + (y : Int))).toNat = 9 * x + y := by omega
      have dr := dsc_r_ M (show y < 9 by omega)
      obtain ⟨e, he⟩ : ∃ e : Nat, dsc f y = e := ⟨_, (Int.toNat_of_nonneg dr.1).symm⟩
      rw [he] at dr
      have i2 : ((e : Int)).toNat = e := by omega
      rw [if_neg (by omega), sp_186 ef (show y < 9 by omega), Option.bind_some, he, if_pos (by omega), sp_160, Option.bind_some]
      show ∃ u : gx_S, (if 0 ≤ (9 * (x : Int) + (y : Int)) ∧ (9 * (x : Int) + (y : Int)) < 72 then ((gm_160 x y (gw1 s 237 ((e : Int)).toNat ((s.1 237 ((e : Int)).toNat) + (s.1 222 ((9 * (x : Int) + (y : Int))).toNat)))).bind fun q16 => if 0 ≤ q16.1 ∧ q16.1 < 72 then gm_187_41 k n x ((y : Int) + 1) (gw1 q16.2 222 (q16.1).toNat 0) else none) else none) = _ ∧ _
      rw [if_pos (by omega), sp_160, Option.bind_some]
      show ∃ u : gx_S, (if 0 ≤ (9 * (x : Int) + (y : Int)) ∧ (9 * (x : Int) + (y : Int)) < 72 then gm_187_41 k n x ((y : Int) + 1) (gw1 (gw1 s 237 ((e : Int)).toNat ((s.1 237 ((e : Int)).toNat) + (s.1 222 ((9 * (x : Int) + (y : Int))).toNat))) 222 ((9 * (x : Int) + (y : Int))).toNat 0) else none) = _ ∧ _
      rw [if_pos (by omega), i1, i2, ce, hA y (Nat.le_refl y) (by omega)]
      obtain ⟨t, ht⟩ : ∃ t, t = gw1 (gw1 s 237 e (s.1 237 e + A y)) 222 (9 * x + y) 0 := ⟨_, rfl⟩
      have to : ∀ k i, k ≠ 222 → k ≠ 237 → t.1 k i = s.1 k i := fun k i h1 h2 => by rw [ht, gw1_1, if_neg (by omega), gw1_1, if_neg (by omega)]
      have t2 : ∀ i, i ≠ 9 * x + y → t.1 222 i = s.1 222 i := fun i h1 => by rw [ht, gw1_1, if_neg (by omega), gw1_1, if_neg (by omega)]
      rw [← ht]
      obtain ⟨u, u1, u2, u3, u4, u5⟩ := ih (y + 1) t (by omega) (by omega) (by
        funext i
        rw [to 216 i (by decide) (by decide), ef]) (fun j h1 h2 => by rw [t2 _ (by omega)]; exact hA j (by omega) h2) (fun d h1 => by
        rw [ht, gw1_1, if_neg (by omega), gw1_1]
        show _ = dpt f A d y + (if dsc f y = (d : Int) then A y else 0)
        by_cases z : d = e
        · rw [if_pos ⟨rfl, z⟩, if_pos (by rw [he, z]), hd e (by omega), z]
        · rw [if_neg (fun t => z t.2), if_neg (by rw [he]; omega), hd d h1, Int.add_zero])
      exact ⟨u, u1, by rw [u2, ht]; rfl, fun k i h1 h2 => by rw [u3 k i h1 h2, to k i h1 h2], u4, fun i h1 => by rw [u5 i (by omega), t2 i (by omega)]⟩
theorem sl_187_21 {x : Nat} {k : Int → gx_S → Option gx_S} : ∀ (n d : Nat) (s : gx_S), 5 < n + d → d ≤ 5 → ∃ u : gx_S, gm_187_21 k n x d s = gm_187_41 k 100000 x 0 u ∧ u.2 = s.2 ∧ (∀ k i, k ≠ 237 → u.1 k i = s.1 k i) ∧ ∀ j, u.1 237 j = if d ≤ j ∧ j < 5 then 0 else s.1 237 j := by
  intro n
  induction n with
  | zero => intro d s h; omega
  | succ n ih =>
    intro d s h hd
    rw [gm_187_21, if_pos (by omega)]
    by_cases q : d = 5
    · rw [if_pos (by omega)]
      exact ⟨s, rfl, rfl, fun _ _ _ => rfl, fun j => by rw [if_neg (by omega)]⟩
    · have ce : ((d : Int) + 1) = ((d + 1 : Nat) : Int) := rfl
      have i2 : ((d : Int)).toNat = d := by omega
      rw [if_neg (by omega), if_pos (by omega), i2, ce]
      obtain ⟨u, u1, u2, u3, u4⟩ := ih (d + 1) (gw1 s 237 d 0) (by omega) (by omega)
      refine ⟨u, u1, u2, fun k i h1 => by rw [u3 k i h1, gw1_1, if_neg (fun x => h1 x.1)], fun j => ?_⟩
      rw [u4, gw1_1]
      by_cases e : j = d
      · rw [if_neg (by omega), if_pos ⟨rfl, e⟩, if_pos (by omega)]
      · by_cases e2 : d + 1 ≤ j ∧ j < 5
        · rw [if_pos e2, if_pos (show d ≤ j ∧ j < 5 by omega)]
        · rw [if_neg e2, if_neg (fun t => e t.2), if_neg (show ¬ (d ≤ j ∧ j < 5) by omega)]
theorem sl_187_7 {f : Nat → Int} {R C : Nat} {A : Nat → Nat → Int} (M : MP f R C) : ∀ (n x : Nat) (s : gx_S), 8 < n + x → x ≤ 8 → s.1 216 = f → (∀ x' y, x ≤ x' → x' < 8 → y < 9 → s.1 222 (9 * x' + y) = A x' y) → ∃ u : gx_S, gm_187_7 n x s = some (gw1 u 215 18 5) ∧ u.2 = s.2 ∧ (∀ k i, k ≠ 222 → k ≠ 237 → u.1 k i = s.1 k i) ∧ (∀ x' d, x ≤ x' → x' < 8 → d < 5 → u.1 222 (9 * x' + d) = dpt f (A x') d 9) ∧ ∀ i, i < 9 * x → u.1 222 i = s.1 222 i := by
  intro n
  induction n with
  | zero => intro x s h; omega
  | succ n ih =>
    intro x s h hx ef hA
    rw [gm_187_7, if_pos (by omega)]
    by_cases q : x = 8
    · rw [if_pos (by omega)]
      exact ⟨s, rfl, rfl, fun _ _ _ _ => rfl, fun x' d h1 h2 => by omega, fun _ _ => rfl⟩
    · rw [if_neg (by omega)]
      obtain ⟨a, a1, a2, a3, a4⟩ := sl_187_21 (x := x) (k := gm_187_7 n) 100000 0 s (by omega) (by omega)
      have a1 : gm_187_21 (gm_187_7 n) 100000 x 0 s = _ := a1
      obtain ⟨b, b1, b2, b3, b4, b5⟩ := sl_187_41 (k := gm_187_7 n) (A := A x) M (show x < 8 by omega) 100000 0 a (by omega) (by omega) (by
        funext i
        rw [a3 216 i (by decide), ef]) (fun j h1 h2 => by rw [a3 222 _ (by decide)]; exact hA x j (Nat.le_refl x) (by omega) h2) (fun d h1 => by
        rw [a4, if_pos (by omega)]
        rfl)
      have b1 : gm_187_41 (gm_187_7 n) 100000 x 0 a = _ := b1
      obtain ⟨c, c1, c2, c3, c4, c5⟩ := sl_187_91 (k := gm_187_7 n) (show x < 8 by omega) 100000 0 b (by omega) (by omega)
      have c1 : gm_187_91 (gm_187_7 n) 100000 x 0 b = _ := c1
      have ck : ∀ k i, k ≠ 222 → k ≠ 237 → c.1 k i = s.1 k i := fun k i h1 h2 => by rw [c3 k i h1, b3 k i h1 h2, a3 k i h2]
      have co_ : ∀ i, ¬ (9 * x ≤ i ∧ i < 9 * x + 9) → c.1 222 i = s.1 222 i := fun i h1 => by rw [c5 i (by omega), b5 i (by omega), a3 222 i (by decide)]
      obtain ⟨u, u1, u2, u3, u4, u5⟩ := ih (x + 1) c (by omega) (by omega) (by
        funext i
        rw [ck 216 i (by decide) (by decide), ef]) (fun x' y h1 h2 h3 => by rw [co_ _ (by omega)]; exact hA x' y (by omega) h2 h3)
      rw [a1, b1, c1]
      refine ⟨u, u1, by rw [u2, c2, b2, a2], fun k i h1 h2 => by rw [u3 k i h1 h2, ck k i h1 h2], fun x' d h1 h2 h3 => ?_, fun i h1 => by rw [u5 i (by omega), co_ i (by omega)]⟩
      by_cases e : x' = x
      · rw [e, u5 _ (by omega), c4 d (by omega) h3, b4 d h3]
      · exact u4 x' d (by omega) h2 h3
theorem sp_187 {s : gx_S} {R C g : Nat} (M : MP (s.1 216) R C) (h7 : s.1 216 2 = 7) (hg : g < 3) : ∃ u : gx_S, gm_187 g s = some u ∧ KRw s u ∧ u.1 215 17 = 8 ∧ u.1 215 18 = 5 ∧ (∀ x, x < 8 → u.2 221 x = LV (s.1 216) R C g x) ∧ ∀ x d, x < 8 → d < 5 → u.1 222 (9 * x + d) = Aco (s.1 216) R C g x d := by
  obtain ⟨a, a1, a2, a3, a4, a5⟩ := sp_181 M h7 hg
  obtain ⟨u, u1, u2, u3, u4, u5⟩ := sl_187_7 (A := PMV (s.1 216) R C g) M 100000 0 a (by omega) (by omega) (KR_216 a2) (fun x' y _ h2 h3 => (a5 x' h2).2 y h3)
  have u1 : gm_187_7 100000 0 a = _ := u1
  refine ⟨gw1 u 215 18 5, ?_, KRw_tr (KR_w a2) (KRw_of (fun k j q => by rw [gw1_1, if_neg (by omega), u3 k j (by omega) (by omega)]) fun k j _ => by rw [gw1_2, u2]), ?_, by rw [gw1_1, if_pos ⟨rfl, rfl⟩], fun x hx => ?_, fun x d hx hd => ?_⟩
  · unfold gm_187
    rw [a1, Option.bind_some, u1]
  · rw [gw1_1, if_neg (by omega), u3 215 17 (by decide) (by decide)]
    exact a3
  · rw [gw1_2, u2]
    exact (a5 x hx).1
  · rw [gw1_1, if_neg (by omega), u4 x d (by omega) hx hd]
    rfl
end
section
/-! QUERIES: coarse -/
def cos_ (f : Nat → Int) (R C g : Nat) (d : Int) (n : Nat) : Int := sg (fun y => if dsc f y = d then sg (fun x => GV f R C g x y) 8 else 0) n
theorem sl_101 {f : Nat → Int} {R C g a : Nat} {d : Int} {s : gx_S} (M : MP f R C) (m : MR s 1 f R C) (ht : fx_oc (a + 3) 7 = true) (hd : i32 d) (hG : ∀ x y, x < 8 → y < 9 → s.1 (a + 3 + 8) (9 * x + y) = GV f R C g x y) : ∀ (n y : Nat), 8 < n + y → y ≤ 8 → gm_101_79 n d a (cos_ f R C g d y) y s = some (cos_ f R C g d 8, s) := by
  unfold i32 at hd
  intro n
  induction n with
  | zero => intro y h; omega
  | succ n ih =>
    intro y h hy
    rw [gm_101_79, if_pos (by omega)]
    by_cases q : y = 8
    · rw [if_pos (by omega), q]
    · have ce : ((y : Int) + 1) = ((y + 1 : Nat) : Int) := rfl
      have i5 : ((y : Int)).toNat = y := by omega
      have dr := dsc_r M (show y < 9 by omega)
      have e5 : s.1 5 y = dsc f y := by
        have := m.2.2.2.2.2.2.2.1 y (by omega)
        rw [show (1 : Nat) + 4 = 5 from rfl] at this
        rw [this, (dr.2.2 (by omega)).2]
      have e : sg (fun x => s.1 (a + 3 + 8) (9 * x + y)) 8 = sg (fun x => GV f R C g x y) 8 := sg_eq fun x hx => hG x y hx (by omega)
      rw [if_neg (by omega), if_pos (by omega), i5, e5, if_pos (by omega), if_pos hd]
      unfold gm_101_115
      by_cases z : dsc f y = d
      · rw [if_neg (fun t => t z), sp_76 ht (show y < 9 by omega), Option.bind_some, e, ce]
        have st : cos_ f R C g d y + sg (fun x => GV f R C g x y) 8 = cos_ f R C g d (y + 1) := by
          show _ = cos_ f R C g d y + (if dsc f y = d then sg (fun x => GV f R C g x y) 8 else 0)
          rw [if_pos z]
        show gm_101_79 n d a (cos_ f R C g d y + sg (fun x => GV f R C g x y) 8) ((y + 1 : Nat) : Int) s = _
        rw [st]
        exact ih (y + 1) (by omega) (by omega)
      · rw [if_pos z, ce]
        have st : cos_ f R C g d (y + 1) = cos_ f R C g d y := by
          show cos_ f R C g d y + (if dsc f y = d then sg (fun x => GV f R C g x y) 8 else 0) = _
          rw [if_neg z, Int.add_zero]
        rw [← st]
        exact ih (y + 1) (by omega) (by omega)
theorem sl_188 {f : Nat → Int} {R C g : Nat} {d : Int} {s : gx_S} (M : MP f R C) (ef : s.1 216 = f) (h17 : s.1 215 17 = 8) (hd : i32 d) (hG : ∀ x y, x < 8 → y < 9 → s.2 224 (9 * x + y) = GV f R C g x y) : ∀ (n y : Nat), 8 < n + y → y ≤ 8 → gm_188_73 n d (cos_ f R C g d y) y s = some (cos_ f R C g d 8, s) := by
  unfold i32 at hd
  intro n
  induction n with
  | zero => intro y h; omega
  | succ n ih =>
    intro y h hy
    rw [gm_188_73, if_pos (by omega)]
    by_cases q : y = 8
    · rw [if_pos (by omega), q]
    · have ce : ((y : Int) + 1) = ((y + 1 : Nat) : Int) := rfl
      have dr := dsc_r M (show y < 9 by omega)
      have e : sg (fun x => s.2 224 (9 * x + y)) 8 = sg (fun x => GV f R C g x y) 8 := sg_eq fun x hx => hG x y hx (by omega)
      rw [if_neg (by omega), sp_186 ef (show y < 9 by omega), Option.bind_some, if_pos (by omega), if_pos hd]
      unfold gm_188_102
      by_cases z : dsc f y = d
      · rw [if_neg (fun t => t z), sp_183 (R := 8) h17 (by omega) (show y < 9 by omega), Option.bind_some, e, ce]
        have st : cos_ f R C g d y + sg (fun x => GV f R C g x y) 8 = cos_ f R C g d (y + 1) := by
          show _ = cos_ f R C g d y + (if dsc f y = d then sg (fun x => GV f R C g x y) 8 else 0)
          rw [if_pos z]
        show gm_188_73 n d (cos_ f R C g d y + sg (fun x => GV f R C g x y) 8) ((y + 1 : Nat) : Int) s = _
        rw [st]
        exact ih (y + 1) (by omega) (by omega)
      · rw [if_pos z, ce]
        have st : cos_ f R C g d (y + 1) = cos_ f R C g d y + 0 := by
          show cos_ f R C g d y + (if dsc f y = d then sg (fun x => GV f R C g x y) 8 else 0) = _
          rw [if_neg z]
        rw [← st]
        exact ih (y + 1) (by omega) (by omega)
/-- the coarse table on the reference's side -/
theorem sp_187f {s : gx_S} {R C g : Nat} (M : MP (s.1 216) R C) (h7 : s.1 216 2 = 7) (hg : g < 3) (S : SC s) : ∃ u w : gx_S, gm_187 g s = some u ∧ gm_173 u = some w ∧ KRw s w ∧ w.1 215 17 = 8 ∧ w.1 215 18 = 5 ∧ ∀ x d, x < 8 → d < 5 → w.2 224 (9 * x + d) = GC_ (s.1 216) R C g x d := by
  obtain ⟨u, u1, u2, u3, u4, u5, u6⟩ := sp_187 M h7 hg
  obtain ⟨p1, p2, p3, p4⟩ := PA_co M h7 hg
  obtain ⟨w, w1, w2, w3, w4, w5, w6⟩ := TB_ref (md := s.1 216 3) (r := u) (R := 8) (m := 5) M.2.2.1 p1 (u2.2.2 S) u3 u4 (by omega) (by omega) (fun _ => p2) (by rw [KRw_216 u2]) (fun x hx => u5 x hx) (fun x y hx hy => u6 x y hx hy) (fun x y hx hy hn => p3 x y hy (by omega))
  refine ⟨u, w, u1, w1, KRw_tr u2 (KR_w (KR_rc w3 w4)), ?_, ?_, fun x d hx hd => w2 x d hx hd⟩
  · rw [w3.1 215 17 (by decide) (by decide) (by decide) (by decide) (by decide)]
    exact u3
  · rw [w3.1 215 18 (by decide) (by decide) (by decide) (by decide) (by decide)]
    exact u4
theorem inv_coarse {s : gx_S} (h : INV s) {x d t : Int} (hx : i32 x) (hd : i32 d) (ht : i32 t) : two s (gm_101 x d t) (gm_188 x d t) := by
  obtain ⟨f, R, C, n, pf, L, tb, c, r, v⟩ := id h
  have hx' := hx
  have hd' := hd
  have ht' := ht
  unfold i32 at hx' hd' ht'
  have e6 : s.1 1 6 = f 2 := c.1.2.2.1
  have c57 := sp_57 (s := s) (a := 1) (by decide +kernel) (by rw [e6]; exact v.1.2.1)
  rw [e6] at c57
  have c150 : ∀ t : gx_S, t.1 216 = f → gm_150 t = some (decide (f 2 = 7), t) := fun t et => by
    have := sp_150 (s := t) (by rw [et]; exact v.1.2.1)
    rw [et] at this
    exact this
  have s1 : gm_101 x d t s = if ((0 ≤ x ∧ x < 3) ∧ f 2 = 7) ∧ (0 ≤ d ∧ d < 4) ∧ (0 ≤ t ∧ t ≤ 1) then (if 0 ≤ x ∧ x < 3 then ((some (fx_rf 70 (x).toNat)).bind fun v46 => if ¬ t = 1 then ((gm_19 v46 2 s).bind fun q52 => gm_101_79 100000 d v46 0 0 q52) else ((gm_19 v46 8 s).bind fun q54 => (gm_76 (v46 + 21) d q54).bind fun q56 => some (q56.1, q56.2))) else none) else some (-1, s) := by
    unfold gm_101
    rw [sp_114 s hx, Option.bind_some]
    by_cases a : 0 ≤ x ∧ x < 3
    · rw [if_neg (fun q => (gbD s).mp q a)]
      show ((gm_57 1 s).bind _) = _
      rw [c57, Option.bind_some]
      by_cases h7 : f 2 = 7
      · rw [if_neg (fun q => (gbD s).mp q h7)]
        show ((gm_117 d s).bind _) = _
        rw [sp_117 s hd, Option.bind_some]
        by_cases b : 0 ≤ d ∧ d < 4
        · rw [if_neg (fun q => (gbD s).mp q b), if_pos ht']
          by_cases e : t < 0
          · rw [if_pos e, if_neg (show ¬ (((0 ≤ x ∧ x < 3) ∧ f 2 = 7) ∧ (0 ≤ d ∧ d < 4) ∧ (0 ≤ t ∧ t ≤ 1)) by omega)]
          · rw [if_neg e]
            by_cases e2 : t ≤ 1
            · rw [if_pos e2, if_pos (show ((0 ≤ x ∧ x < 3) ∧ f 2 = 7) ∧ (0 ≤ d ∧ d < 4) ∧ (0 ≤ t ∧ t ≤ 1) by omega)]
            · rw [if_neg e2, if_neg (show ¬ (((0 ≤ x ∧ x < 3) ∧ f 2 = 7) ∧ (0 ≤ d ∧ d < 4) ∧ (0 ≤ t ∧ t ≤ 1)) by omega)]
        · rw [if_pos ((gbD s).mpr b), if_neg (show ¬ (((0 ≤ x ∧ x < 3) ∧ f 2 = 7) ∧ (0 ≤ d ∧ d < 4) ∧ (0 ≤ t ∧ t ≤ 1)) from fun q => b q.2.1)]
      · rw [if_pos ((gbD s).mpr h7), if_neg (show ¬ (((0 ≤ x ∧ x < 3) ∧ f 2 = 7) ∧ (0 ≤ d ∧ d < 4) ∧ (0 ≤ t ∧ t ≤ 1)) from fun q => h7 q.1.2)]
    · rw [if_pos ((gbD s).mpr a), if_neg (show ¬ (((0 ≤ x ∧ x < 3) ∧ f 2 = 7) ∧ (0 ≤ d ∧ d < 4) ∧ (0 ≤ t ∧ t ≤ 1)) from fun q => a q.1.1)]
  have s2 : ∀ y : gx_S, y.1 216 = f → gm_188 x d t y = if ((0 ≤ x ∧ x < 3) ∧ f 2 = 7) ∧ (0 ≤ d ∧ d < 4) ∧ (0 ≤ t ∧ t ≤ 1) then (if ¬ t = 1 then ((gm_181 x y).bind fun q51 => (gm_173 q51).bind fun q53 => gm_188_73 100000 d 0 0 q53) else ((gm_187 x y).bind fun q55 => (gm_173 q55).bind fun q57 => (gm_183 d q57).bind fun q59 => some (q59.1, q59.2))) else some (-1, y) := fun y ey => by
    unfold gm_188
    rw [c150 y ey, Option.bind_some]
    by_cases h7 : f 2 = 7
    · rw [if_neg (fun q => (gbD s).mp q h7)]
      show ((gm_148 x y).bind _) = _
      rw [sp_148 y hx, Option.bind_some]
      by_cases a : 0 ≤ x ∧ x ≤ 2
      · rw [if_neg (fun q => (gbD s).mp q a), if_pos hd', in_ y hd (by omega) (by omega), Option.bind_some]
        by_cases b : 0 ≤ d ∧ d ≤ 3
        · rw [if_neg (fun q => (gbD s).mp q b), if_pos ht', in_ y ht (by omega) (by omega), Option.bind_some]
          by_cases e : 0 ≤ t ∧ t ≤ 1
          · rw [if_pos (fun q => (gbD s).mp q e), if_pos (show ((0 ≤ x ∧ x < 3) ∧ f 2 = 7) ∧ (0 ≤ d ∧ d < 4) ∧ (0 ≤ t ∧ t ≤ 1) by omega)]
          · rw [if_neg (fun q => q ((gbD s).mpr e)), if_neg (show ¬ (((0 ≤ x ∧ x < 3) ∧ f 2 = 7) ∧ (0 ≤ d ∧ d < 4) ∧ (0 ≤ t ∧ t ≤ 1)) from fun q => e q.2.2)]
        · rw [if_pos ((gbD s).mpr b), if_neg (show ¬ (((0 ≤ x ∧ x < 3) ∧ f 2 = 7) ∧ (0 ≤ d ∧ d < 4) ∧ (0 ≤ t ∧ t ≤ 1)) by omega)]
      · rw [if_pos ((gbD s).mpr a), if_neg (show ¬ (((0 ≤ x ∧ x < 3) ∧ f 2 = 7) ∧ (0 ≤ d ∧ d < 4) ∧ (0 ≤ t ∧ t ≤ 1)) by omega)]
    · rw [if_pos ((gbD s).mpr h7), if_neg (show ¬ (((0 ≤ x ∧ x < 3) ∧ f 2 = 7) ∧ (0 ≤ d ∧ d < 4) ∧ (0 ≤ t ∧ t ≤ 1)) from fun q => h7 q.1.2)]
  by_cases ok : ((0 ≤ x ∧ x < 3) ∧ f 2 = 7) ∧ (0 ≤ d ∧ d < 4) ∧ (0 ≤ t ∧ t ≤ 1)
  · obtain ⟨⟨a, h7⟩, b, e⟩ := id ok
    obtain ⟨g, rfl⟩ : ∃ g : Nat, x = g := ⟨x.toNat, by omega⟩
    have hg : g < 3 := by omega
    rw [if_pos ok, if_pos a, Option.bind_some, vg_ g hg] at s1
    by_cases t1 : t = 1
    · obtain ⟨d, rfl⟩ : ∃ d' : Nat, d = d' := ⟨d.toNat, by omega⟩
      obtain ⟨D, u, u1, u2, u3, u4, u5, u6⟩ := CV_ready (w := 8) (by omega) v.1 h7 hg c
      have u1 : gm_19 (71 + 48 * g) 8 s = some u := u1
      have tm := (u4.2.2.2.2.2.2.1 u5).2
      have kc : KC s u := KG_KC (ga_of hg) u3
      have ru := RV_KC kc r
      have eu : u.1 216 = f := ru.1
      obtain ⟨p, w, p1, p2, p3, p4, p5, p6⟩ := sp_187f (s := u) (R := R) (C := C) (g := g) (by rw [eu]; exact v.1) (by rw [eu]; exact h7) hg ru.2.2.2.2
      rw [eu] at p6
      have s2 := s2 u eu
      rw [if_pos ok, if_neg (fun q => q t1), p1, Option.bind_some, p2, Option.bind_some, sp_183 (R := 8) p4 (by omega) (show d < 9 by omega), Option.bind_some] at s2
      rw [if_neg (fun q => q t1), u1, Option.bind_some, sp_76 (ga_of hg).2.2.2.2.2.1 (show d < 9 by omega), Option.bind_some] at s1
      have e : sg (fun x => w.2 224 (9 * x + d)) 8 = sg (fun x => u.1 (71 + 48 * g + 21 + 8) (9 * x + d)) 8 := sg_eq fun x hx => by
        rw [p6 x d hx (by omega), ((tm x hx).2.2 d (by omega)).2.2.2]
        rfl
      have s2 : gm_188 g d t u = some (sg (fun x => w.2 224 (9 * x + d)) 8, w) := s2
      rw [e] at s2
      exact ⟨_, u, w, s1, s2, q_inv kc u2 r v p3⟩
    · obtain ⟨D, u, u1, u2, u3, u4, u5, u6⟩ := CV_ready (w := 2) (by omega) v.1 h7 hg c
      have u1 : gm_19 (71 + 48 * g) 2 s = some u := u1
      have tm := (u4.2.2.2.2.1 u5).2.1
      have kc : KC s u := KG_KC (ga_of hg) u3
      have ru := RV_KC kc r
      have eu : u.1 216 = f := ru.1
      obtain ⟨p, w, p1, p2, p3, p4, p5, p6, p7⟩ := sp_181f (s := u) (R := R) (C := C) (g := g) (by rw [eu]; exact v.1) (by rw [eu]; exact h7) hg ru.2.2.2.2
      have wg : ∀ x y, x < 8 → y < 9 → w.2 224 (9 * x + y) = GV f R C g x y := fun x y hx hy => by
        have := ((p7 x hx).2.2 y hy).2
        rw [eu] at this
        exact this
      have t1' := sl_101 (a := 71 + 48 * g) v.1 u2.1 (ga_of hg).2.2.2.1 hd (fun x y hx hy => ((tm x hx).2.2 y hy).2.2.2) 100000 0 (by omega) (by omega)
      have t1' : gm_101_79 100000 d (71 + 48 * g) 0 0 u = _ := t1'
      have t2 := sl_188 v.1 ((KR_216 p4).trans eu) p5 hd wg 100000 0 (by omega) (by omega)
      have t2 : gm_188_73 100000 d 0 0 w = _ := t2
      have s2 := s2 u eu
      rw [if_pos ok, if_pos t1, p1, Option.bind_some, p2, Option.bind_some, t2] at s2
      rw [if_pos t1, u1, Option.bind_some, t1'] at s1
      exact ⟨_, u, w, s1, s2, q_inv kc u2 r v (KR_w p4)⟩
  · rw [if_neg ok] at s1
    exact ⟨-1, s, s, s1, (s2 s r.1).trans (if_neg ok), h⟩
end
section
/-! QUERIES: byWay -/
def wrow (f : Nat → Int) (R C g d : Nat) (b : Bool) (y : Nat) : Int := if dsc f y = (d : Int) then SO f R C g (-1) ((y : Nat) : Int) b else 0
theorem sl_190 {f : Nat → Int} {R C g d : Nat} (M : MP f R C) (h7 : f 2 = 7) (hg : g < 3) (hd : d < 4) (b : Bool) : ∀ (n y : Nat) (s : gx_S), 8 < n + y → y ≤ 8 → s.1 216 = f → ∃ u : gx_S, gm_190_3 n g d (gb b) y s = some u ∧ u.2 = s.2 ∧ (∀ k i, k ≠ 222 → u.1 k i = s.1 k i) ∧ (∀ y', y ≤ y' → y' < 8 → u.1 222 (9 * d + y') = wrow f R C g d b y') ∧ ∀ i, ¬ (9 * d + y ≤ i ∧ i < 9 * d + 8) → u.1 222 i = s.1 222 i := by
  intro n
  induction n with
  | zero => intro y s h; omega
  | succ n ih =>
    intro y s h hy ef
    rw [gm_190_3, if_pos (by omega)]
    by_cases q : y = 8
    · rw [if_pos (by omega)]
      exact ⟨s, rfl, rfl, fun _ _ _ => rfl, fun y' h1 h2 => by omega, fun _ _ => rfl⟩
    · have ce : ((y : Int) + 1) = ((y + 1 : Nat) : Int) := rfl
      have i1 : ((9 * (d : Int) + (y : Int))).toNat = 9 * d + y := by omega
      have dr := dsc_r M (show y < 9 by omega)
      rw [if_neg (by omega), sp_160, Option.bind_some]
      show ∃ u : gx_S, ((gm_186 y s).bind fun q6 => if (-2147483648 ≤ q6.1 ∧ q6.1 ≤ 2147483647) then (if (-2147483648 ≤ (d : Int) ∧ (d : Int) ≤ 2147483647) then (if ¬ q6.1 = (d : Int) then gm_190_43 (gm_190_3 n) g d (gb b) y (9 * (d : Int) + (y : Int)) 0 q6.2 else ((gm_157 g (-1) y (gb b) q6.2).bind fun q11 => gm_190_43 (gm_190_3 n) g d (gb b) y (9 * (d : Int) + (y : Int)) q11.1 q11.2)) else none) else none) = _ ∧ _
      rw [sp_186 ef (show y < 9 by omega), Option.bind_some, if_pos (by omega), if_pos (by omega)]
      have st : (if ¬ dsc f y = (d : Int) then gm_190_43 (gm_190_3 n) g d (gb b) y (9 * (d : Int) + (y : Int)) 0 s else ((gm_157 g (-1) y (gb b) s).bind fun q11 => gm_190_43 (gm_190_3 n) g d (gb b) y (9 * (d : Int) + (y : Int)) q11.1 q11.2)) = gm_190_3 n g d (gb b) ((y + 1 : Nat) : Int) (gw1 s 222 (9 * d + y) (wrow f R C g d b y)) := by
        have tail : ∀ v : Int, gm_190_43 (gm_190_3 n) g d (gb b) y (9 * (d : Int) + (y : Int)) v s = gm_190_3 n g d (gb b) ((y + 1 : Nat) : Int) (gw1 s 222 (9 * d + y) v) := fun v => by
          unfold gm_190_43
          rw [if_pos (by omega), i1, ce]
        unfold wrow
        by_cases z : dsc f y = (d : Int)
        · have c57 := sp_157g (s := s) (R := R) (C := C) (by rw [ef]; exact M) (by rw [ef]; exact h7) (-1) (y : Int) b hg (by omega) (by omega)
          rw [ef] at c57
          rw [if_neg (fun t => t z), if_pos z, c57, Option.bind_some]
          exact tail _
        · rw [if_pos z, if_neg z]
          exact tail 0
      show ∃ u : gx_S, (if ¬ dsc f y = (d : Int) then gm_190_43 (gm_190_3 n) g d (gb b) y (9 * (d : Int) + (y : Int)) 0 s else ((gm_157 g (-1) y (gb b) s).bind fun q11 => gm_190_43 (gm_190_3 n) g d (gb b) y (9 * (d : Int) + (y : Int)) q11.1 q11.2)) = _ ∧ _
      rw [st]
      obtain ⟨u, u1, u2, u3, u4, u5⟩ := ih (y + 1) (gw1 s 222 (9 * d + y) (wrow f R C g d b y)) (by omega) (by omega) (by
        funext i
        rw [gw1_1, if_neg (by omega), ef])
      refine ⟨u, u1, u2, fun k i h1 => by rw [u3 k i h1, gw1_1, if_neg (fun x => h1 x.1)], fun y' h1 h2 => ?_, fun i h1 => ?_⟩
      · by_cases e : y' = y
        · rw [e, u5 _ (by omega), gw1_1, if_pos ⟨rfl, rfl⟩]
        · exact u4 y' (by omega) h2
      · rw [u5 i (by omega), gw1_1, if_neg (by omega)]
theorem wrow_r {f : Nat → Int} {R C g d : Nat} (M : MP f R C) (h7 : f 2 = 7) (hg : g < 3) (b : Bool) (y : Nat) : 0 ≤ wrow f R C g d b y ∧ wrow f R C g d b y ≤ 864 := by
  unfold wrow
  split
  · exact SO_r M h7 hg (-1) y b
  · omega
theorem sl_189_70 {f P : Nat → Int} {R C g : Nat} {z : Int} (M : MP f R C) (h7 : f 2 = 7) (hg : g < 3) (hP : ∀ x, x < 4 → 0 ≤ P x ∧ P x ≤ 100000000) : ∀ (n d : Nat) (s : gx_S), 4 < n + d → d ≤ 4 → s.1 216 = f → s.1 215 18 = 8 → (∀ x, x < 4 → s.1 238 x = P x) → ∃ u : gx_S, gm_189_70 n g z d s = ((gm_173 u).bind fun q4 => (gm_183 z q4).bind fun q6 => some (q6.1, q6.2)) ∧ (∀ k i, k ≠ 222 → k ≠ 223 → u.1 k i = s.1 k i) ∧ (∀ k i, k ≠ 221 → u.2 k i = s.2 k i) ∧ (∀ x', d ≤ x' → x' < 4 → u.2 221 x' = P x' ∧ ∀ y, y < 8 → u.1 222 (9 * x' + y) = Awy f R C g x' y) ∧ (∀ i, i < d → u.2 221 i = s.2 221 i) ∧ ∀ i, i < 9 * d → u.1 222 i = s.1 222 i := by
  intro n
  induction n with
  | zero => intro d s h; omega
  | succ n ih =>
    intro d s h hd ef e18 hl
    rw [gm_189_70, if_pos (by omega)]
    by_cases q : d = 4
    · rw [if_pos (by omega)]
      exact ⟨s, rfl, fun _ _ _ _ => rfl, fun _ _ _ => rfl, fun x' h1 h2 => by omega, fun _ _ => rfl, fun _ _ => rfl⟩
    · have i5 : ((d : Int)).toNat = d := by omega
      have ce : ((d : Int) + 1) = ((d + 1 : Nat) : Int) := rfl
      have lr := hP d (by omega)
      rw [if_neg (by omega), if_pos (by omega), i5, hl d (by omega), if_pos (by omega), if_pos (by omega)]
      obtain ⟨a, ha⟩ : ∃ a, a = gw2 s 221 d (P d) := ⟨_, rfl⟩
      have a1 : ∀ k i, a.1 k i = s.1 k i := fun k i => by rw [ha]; rfl
      have ea : a.1 216 = f := by
        funext i
        rw [a1, ef]
      obtain ⟨b, b1, b2, b3, b4, b5⟩ := sl_190 M h7 hg (show d < 4 by omega) false 100000 0 a (by omega) (by omega) ea
      have b1 : gm_190 g d 0 a = some b := b1
      have b18 : b.1 215 18 = ((8 : Nat) : Int) := by rw [b3 215 18 (by decide), a1]; exact e18
      have sm : sg (fun c => b.1 222 (9 * d + c)) 8 = sg (fun y => wrow f R C g d false y) 8 := sg_eq fun y hy => b4 y (by omega) hy
      have smr : 0 ≤ sg (fun y => wrow f R C g d false y) 8 ∧ sg (fun y => wrow f R C g d false y) 8 ≤ 6912 := by
        refine ⟨sg_nn fun y _ => (wrow_r M h7 hg false y).1, ?_⟩
        exact Int.le_trans (sg_le (g := fun _ => 864) fun y _ => (wrow_r M h7 hg false y).2) (by decide)
      have c61 := sp_161 (s := b) (r := d) (m := 8) (by omega) (by omega) b18
      rw [sm] at c61
      obtain ⟨e, he⟩ : ∃ e, e = gw1 b 223 d (sg (fun y => wrow f R C g d false y) 8) := ⟨_, rfl⟩
      rw [← he] at c61
      have e1 : ∀ k i, k ≠ 223 → e.1 k i = b.1 k i := fun k i q => by rw [he, gw1_1, if_neg (by omega)]
      rw [← ha, b1, Option.bind_some, c61, Option.bind_some]
      show ∃ u : gx_S, (if (-2147483648 ≤ sg (fun y => wrow f R C g d false y) 8 ∧ sg (fun y => wrow f R C g d false y) 8 ≤ 2147483647) then (if ¬ sg (fun y => wrow f R C g d false y) 8 = 0 then gm_189_110 (gm_189_70 n) g z d e else ((gm_190 g d 1 e).bind fun q21 => gm_189_110 (gm_189_70 n) g z d q21)) else none) = _ ∧ _
      rw [if_pos (by omega)]
      -- the row as it is laid in the end
      have row : ∃ t : gx_S, (if ¬ sg (fun y => wrow f R C g d false y) 8 = 0 then gm_189_110 (gm_189_70 n) g z d e else ((gm_190 g d 1 e).bind fun q21 => gm_189_110 (gm_189_70 n) g z d q21)) = gm_189_70 n g z ((d + 1 : Nat) : Int) t ∧ t.2 = e.2 ∧ (∀ k i, k ≠ 222 → t.1 k i = e.1 k i) ∧ (∀ y, y < 8 → t.1 222 (9 * d + y) = Awy f R C g d y) ∧ ∀ i, ¬ (9 * d ≤ i ∧ i < 9 * d + 8) → t.1 222 i = e.1 222 i := by
        have aw : ∀ y, y < 8 → Awy f R C g d y = wrow f R C g d (decide (sg (fun y => wrow f R C g d false y) 8 = 0)) y := fun y hy => by
          unfold Awy
          by_cases z : dsc f y = (d : Int)
          · rw [if_pos ⟨hy, z⟩]
            show SO f R C g (-1) y (decide (sg (fun y => wrow f R C g d false y) 8 = 0)) = _
            show _ = (if dsc f y = (d : Int) then SO f R C g (-1) ((y : Nat) : Int) (decide (sg (fun y => wrow f R C g d false y) 8 = 0)) else 0)
            rw [if_pos z]
          · rw [if_neg (fun t => z t.2)]
            show _ = (if dsc f y = (d : Int) then SO f R C g (-1) ((y : Nat) : Int) (decide (sg (fun y => wrow f R C g d false y) 8 = 0)) else 0)
            rw [if_neg z]
        by_cases z0 : sg (fun y => wrow f R C g d false y) 8 = 0
        · have ee : e.1 216 = f := by
            funext i
            rw [e1 216 i (by decide), b3 216 i (by decide), ea]
          obtain ⟨t, t1, t2, t3, t4, t5⟩ := sl_190 M h7 hg (show d < 4 by omega) true 100000 0 e (by omega) (by omega) ee
          have t1 : gm_190 g d 1 e = some t := t1
          rw [if_neg (fun t => t z0), t1, Option.bind_some]
          refine ⟨t, rfl, t2, t3, fun y hy => ?_, fun i hi => t5 i (by omega)⟩
          rw [t4 y (by omega) hy, aw y hy, decide_eq_true z0]
        · rw [if_pos z0]
          refine ⟨e, rfl, rfl, fun _ _ _ => rfl, fun y hy => ?_, fun _ _ => rfl⟩
          rw [e1 222 _ (by decide), b4 y (by omega) hy, aw y hy, decide_eq_false z0]
      obtain ⟨t, t1, t2, t3, t4, t5⟩ := row
      have tk : ∀ k i, k ≠ 222 → k ≠ 223 → t.1 k i = s.1 k i := fun k i h1 h2 => by rw [t3 k i h1, e1 k i h2, b3 k i h1, a1]
      have tl : ∀ k i, t.2 k i = a.2 k i := fun k i => by rw [t2, he, gw1_2, b2]
      rw [t1]
      obtain ⟨u, u1, u2, u3, u4, u5, u6⟩ := ih (d + 1) t (by omega) (by omega) (by
        funext i
        rw [tk 216 i (by decide) (by decide), ef]) (by rw [tk 215 18 (by decide) (by decide)]; exact e18) (fun x hx => by rw [tk 238 x (by decide) (by decide)]; exact hl x hx)
      refine ⟨u, u1, fun k i h1 h2 => (u2 k i h1 h2).trans (tk k i h1 h2), fun k i h1 => ?_, fun x' h1 h2 => ?_, fun i h1 => ?_, fun i h1 => ?_⟩
      · rw [u3 k i h1, tl, ha, gw2_2, if_neg (fun x => h1 x.1)]
      · by_cases e' : x' = d
        · rw [e']
          refine ⟨?_, fun y hy => ?_⟩
          · rw [u5 d (by omega), tl, ha, gw2_2, if_pos ⟨rfl, rfl⟩]
          · rw [u6 _ (by omega), t4 y hy]
        · exact u4 x' (by omega) h2
      · rw [u5 i (by omega), tl, ha, gw2_2, if_neg (by omega)]
      · rw [u6 i (by omega), t5 i (by omega), e1 222 i (by decide), b5 i (by omega), a1]
theorem sl_189_39 {g : Nat} {z : Int} : ∀ (n x : Nat) (s : gx_S), 4 < n + x → x ≤ 4 → s.1 215 17 = 8 → ∃ u : gx_S, gm_189_39 n g z x s = ((gm_159 4 8 u).bind fun q4 => gm_189_70 100000 g z 0 q4) ∧ u.2 = s.2 ∧ (∀ k i, k ≠ 238 → u.1 k i = s.1 k i) ∧ ∀ j, u.1 238 j = if x ≤ j ∧ j < 4 then sg (fun r => s.2 224 (9 * r + j)) 8 else s.1 238 j := by
  intro n
  induction n with
  | zero => intro x s h; omega
  | succ n ih =>
    intro x s h hx e17
    rw [gm_189_39, if_pos (by omega)]
    by_cases q : x = 4
    · rw [if_pos (by omega)]
      exact ⟨s, rfl, rfl, fun _ _ _ => rfl, fun j => by rw [if_neg (by omega)]⟩
    · have ce : ((x : Int) + 1) = ((x + 1 : Nat) : Int) := rfl
      have i5 : ((x : Int)).toNat = x := by omega
      rw [if_neg (by omega), sp_183 (R := 8) e17 (by omega) (show x < 9 by omega), Option.bind_some, if_pos (by omega), i5, ce]
      obtain ⟨u, u1, u2, u3, u4⟩ := ih (x + 1) (gw1 s 238 x (sg (fun r => s.2 224 (9 * r + x)) 8)) (by omega) (by omega) (by rw [gw1_1, if_neg (by omega)]; exact e17)
      refine ⟨u, u1, u2, fun k i h1 => by rw [u3 k i h1, gw1_1, if_neg (fun x => h1 x.1)], fun j => ?_⟩
      rw [u4, gw1_1]
      by_cases y : j = x
      · rw [if_neg (by omega), if_pos ⟨rfl, y⟩, if_pos (by omega), y]
      · by_cases y2 : x + 1 ≤ j ∧ j < 4
        · rw [if_pos y2, if_pos (show x ≤ j ∧ j < 4 by omega)]
          rfl
        · rw [if_neg y2, if_neg (fun t => y t.2), if_neg (show ¬ (x ≤ j ∧ j < 4) by omega)]
end
section
/-! QUERIES: byWay, whole -/
theorem KRw_of2 {s u : gx_S} (h1 : ∀ k j, k ≠ 222 → k ≠ 223 → u.1 k j = s.1 k j) (h2 : ∀ k j, k ≠ 221 → u.2 k j = s.2 k j) : KRw s u := ⟨fun k j q => h1 k j (by omega) (by omega), fun k j q => h2 k j (by omega), fun S => ⟨fun j hj => by rw [h1 232 j (by decide) (by decide), h1 233 j (by decide) (by decide), h1 234 j (by decide) (by decide), h2 225 j (by decide)]; exact S.1 j hj, fun c hc => by rw [h1 235 c (by decide) (by decide), h2 229 c (by decide), h2 230 c (by decide), h2 227 c (by decide), h2 228 c (by decide)]; exact S.2.1 c hc, fun k hk => by rw [h2 231 k (by decide)]; exact S.2.2 k hk⟩⟩
theorem sg_48 (F : Nat → Int) (h : ∀ x, 4 ≤ x → x < 8 → F x = 0) : sg F 8 = sg F 4 := by
  have e : sg F 8 = sg F 4 + F 4 + F 5 + F 6 + F 7 := rfl
  rw [e, h 4 (by omega) (by omega), h 5 (by omega) (by omega), h 6 (by omega) (by omega), h 7 (by omega) (by omega)]
  omega
theorem inv_byWay {s : gx_S} (h : INV s) {x z : Int} (hx : i32 x) (hz : i32 z) : two s (gm_103 x z) (gm_189 x z) := by
  obtain ⟨f, R, C, n, pf, L, tb, c, r, v⟩ := id h
  have hx' := hx
  have hz' := hz
  unfold i32 at hx' hz'
  have e6 : s.1 1 6 = f 2 := c.1.2.2.1
  have c57 := sp_57 (s := s) (a := 1) (by decide +kernel) (by rw [e6]; exact v.1.2.1)
  rw [e6] at c57
  have c150 : ∀ t : gx_S, t.1 216 = f → gm_150 t = some (decide (f 2 = 7), t) := fun t et => by
    have := sp_150 (s := t) (by rw [et]; exact v.1.2.1)
    rw [et] at this
    exact this
  have s1 : gm_103 x z s = if (0 ≤ x ∧ x < 3) ∧ (0 ≤ z ∧ z < 8) ∧ f 2 = 7 then (if 0 ≤ x ∧ x < 3 then ((some (fx_rf 70 (x).toNat)).bind fun v27 => (gm_19 v27 16 s).bind fun q32 => (gm_76 (v27 + 30) z q32).bind fun q34 => some (q34.1, q34.2)) else none) else some (-1, s) := by
    unfold gm_103
    rw [sp_114 s hx, Option.bind_some]
    by_cases a : 0 ≤ x ∧ x < 3
    · rw [if_neg (fun q => (gbD s).mp q a)]
      show ((gm_115 z s).bind _) = _
      rw [sp_115 s hz, Option.bind_some]
      by_cases b : 0 ≤ z ∧ z < 8
      · rw [if_neg (fun q => (gbD s).mp q b)]
        show ((gm_57 1 s).bind _) = _
        rw [c57, Option.bind_some]
        by_cases h7 : f 2 = 7
        · rw [if_pos (fun q => (gbD s).mp q h7), if_pos (show (0 ≤ x ∧ x < 3) ∧ (0 ≤ z ∧ z < 8) ∧ f 2 = 7 from ⟨a, b, h7⟩)]
        · rw [if_neg (fun q => q ((gbD s).mpr h7)), if_neg (show ¬ ((0 ≤ x ∧ x < 3) ∧ (0 ≤ z ∧ z < 8) ∧ f 2 = 7) from fun q => h7 q.2.2)]
      · rw [if_pos ((gbD s).mpr b), if_neg (show ¬ ((0 ≤ x ∧ x < 3) ∧ (0 ≤ z ∧ z < 8) ∧ f 2 = 7) from fun q => b q.2.1)]
    · rw [if_pos ((gbD s).mpr a), if_neg (show ¬ ((0 ≤ x ∧ x < 3) ∧ (0 ≤ z ∧ z < 8) ∧ f 2 = 7) from fun q => a q.1)]
  have s2 : ∀ y : gx_S, y.1 216 = f → gm_189 x z y = if (0 ≤ x ∧ x < 3) ∧ (0 ≤ z ∧ z < 8) ∧ f 2 = 7 then ((gm_187 x y).bind fun q56 => (gm_173 q56).bind fun q58 => gm_189_39 100000 x z 0 q58) else some (-1, y) := fun y ey => by
    unfold gm_189
    rw [c150 y ey, Option.bind_some]
    by_cases h7 : f 2 = 7
    · rw [if_neg (fun q => (gbD s).mp q h7)]
      show ((gm_148 x y).bind _) = _
      rw [sp_148 y hx, Option.bind_some]
      by_cases a : 0 ≤ x ∧ x ≤ 2
      · rw [if_neg (fun q => (gbD s).mp q a), if_pos hz', in_ y hz (by omega) (by omega), Option.bind_some]
        by_cases b : 0 ≤ z ∧ z ≤ 7
        · rw [if_pos (fun q => (gbD s).mp q b), if_pos (show (0 ≤ x ∧ x < 3) ∧ (0 ≤ z ∧ z < 8) ∧ f 2 = 7 by omega)]
        · rw [if_neg (fun q => q ((gbD s).mpr b)), if_neg (show ¬ ((0 ≤ x ∧ x < 3) ∧ (0 ≤ z ∧ z < 8) ∧ f 2 = 7) by omega)]
      · rw [if_pos ((gbD s).mpr a), if_neg (show ¬ ((0 ≤ x ∧ x < 3) ∧ (0 ≤ z ∧ z < 8) ∧ f 2 = 7) by omega)]
    · rw [if_pos ((gbD s).mpr h7), if_neg (show ¬ ((0 ≤ x ∧ x < 3) ∧ (0 ≤ z ∧ z < 8) ∧ f 2 = 7) from fun q => h7 q.2.2)]
  by_cases ok : (0 ≤ x ∧ x < 3) ∧ (0 ≤ z ∧ z < 8) ∧ f 2 = 7
  · obtain ⟨a, b, h7⟩ := id ok
    obtain ⟨g, rfl⟩ : ∃ g : Nat, x = g := ⟨x.toNat, by omega⟩
    obtain ⟨z, rfl⟩ : ∃ z' : Nat, z = z' := ⟨z.toNat, by omega⟩
    have hg : g < 3 := by omega
    obtain ⟨D, u, u1, u2, u3, u4, u5, u6⟩ := CV_ready (w := 16) (by omega) v.1 h7 hg c
    have u1 : gm_19 (71 + 48 * g) 16 s = some u := u1
    have tm := u4.2.2.2.2.2.2.2.1 u5
    have kc : KC s u := KG_KC (ga_of hg) u3
    have ru := RV_KC kc r
    have eu : u.1 216 = f := ru.1
    obtain ⟨p, w, p1, p2, p3, p4, p5, p6⟩ := sp_187f (s := u) (R := R) (C := C) (g := g) (by rw [eu]; exact v.1) (by rw [eu]; exact h7) hg ru.2.2.2.2
    rw [eu] at p6
    obtain ⟨A1, A2, A3⟩ := PA_wy v.1 h7 hg
    obtain ⟨y, y1, y2, y3, y4⟩ := sl_189_39 (g := g) (z := (z : Int)) 100000 0 w (by omega) (by omega) p4
    have y1 : gm_189_39 100000 g z 0 w = _ := y1
    have yK : KRw w y := KRw_of (fun k j q => y3 k j (by omega)) fun k j _ => by rw [y2]
    have Ky := KRw_tr p3 yK
    obtain ⟨d, d1, d2, d3, d4, d5, d6, d7⟩ := KR_159 y 4 8
    have Kd := KRw_tr Ky (KR_w d2)
    have ed : d.1 216 = f := (KRw_216 Kd).trans eu
    have d38 : ∀ x, x < 4 → d.1 238 x = Pwy f R C g x := fun x hx => by
      rw [d6 238 x (by decide) (by decide), y4, if_pos (by omega)]
      unfold Pwy
      rw [if_pos hx]
      exact sg_eq fun q hq => p6 q x hq (by omega)
    obtain ⟨e, e1, e2, e3, e4, e5, e6'⟩ := sl_189_70 (z := (z : Int)) v.1 h7 hg (fun x hx => A1.1 x (by omega)) 100000 0 d (by omega) (by omega) ed d4 d38
    have e1 : gm_189_70 100000 g z 0 d = _ := e1
    have Ke := KRw_tr Kd (KRw_of2 e2 e3)
    have e17 : e.1 215 17 = ((4 : Nat) : Int) := by rw [e2 215 17 (by decide) (by decide)]; exact d3
    have e18 : e.1 215 18 = ((8 : Nat) : Int) := by rw [e2 215 18 (by decide) (by decide)]; exact d4
    obtain ⟨o, o1, o2, o3, o4, o5, o6⟩ := TB_ref (md := f 3) (r := e) (R := 4) (m := 8) v.1.2.2.1 A1 (Ke.2.2 ru.2.2.2.2) e17 e18 (by omega) (by omega) (fun _ => A2) (by rw [KRw_216 Ke, eu]) (fun x hx => (e4 x (by omega) hx).1) (fun x y hx hy => (e4 x (by omega) hx).2 y hy) (fun x y hx hy hn => A3 x y hx hy hn)
    have o17 : o.1 215 17 = ((4 : Nat) : Int) := by
      rw [o3.1 215 17 (by decide) (by decide) (by decide) (by decide) (by decide)]
      exact e17
    have s2 := s2 u eu
    rw [if_pos ok, p1, Option.bind_some, p2, Option.bind_some, y1, d1, Option.bind_some, e1, o1, Option.bind_some, sp_183 (R := 4) o17 (by omega) (show z < 9 by omega), Option.bind_some] at s2
    rw [if_pos ok, if_pos a, Option.bind_some, vg_ g hg, u1, Option.bind_some, sp_76 (ga_of hg).2.2.2.2.2.2.1 (show z < 9 by omega), Option.bind_some] at s1
    have s2 : gm_189 g z u = some (sg (fun x => o.2 224 (9 * x + z)) 4, o) := s2
    have ee : sg (fun x => u.1 (71 + 48 * g + 30 + 8) (9 * x + z)) 8 = sg (fun x => o.2 224 (9 * x + z)) 4 := by
      rw [sg_48 _ fun x h1 h2 => by
        rw [((tm x h2).2.2 z (by omega)).2.2.2]
        exact o6 x z h2 (by omega) (by omega)]
      exact sg_eq fun x hx => by rw [((tm x (by omega)).2.2 z (by omega)).2.2.2, o2 x z hx (by omega)]
    rw [← ee] at s2
    exact ⟨_, u, o, s1, s2, q_inv kc u2 r v (KRw_tr Ke (KR_w (KR_rc o3 o4)))⟩
  · rw [if_neg ok] at s1
    exact ⟨-1, s, s, s1, (s2 s r.1).trans (if_neg ok), h⟩
end
section
/-! NOBODY is lost: the lives, the moved -/
/-- by remainders: where there is no amount, nobody goes -/
theorem TB_Az {P : Nat → Int} {A : Nat → Nat → Int} (h : PA P A) {x y : Nat} (hx : x < 8) (hy : y < 9) (z : A x y = 0) : TB 0 P A x y = 0 := by
  obtain ⟨v, u, v1, u1, u2, u3, u4, u5⟩ := sp_41_0 (t := 74) (by decide +kernel) (cc_tf h)
  obtain ⟨v', w1, w2, w3, w4, w5, w6⟩ := sp_70 (t := 74) (by decide +kernel) (cc_tf h)
  have ev : v' = v := Option.some.inj (w1.symm.trans v1)
  rw [ev] at w4
  have a0 : am (cc P A) 74 x y = 0 := by rw [cc_am P A hy, z]
  have f0 : af (cc P A) 74 x y = 0 := by
    unfold af
    rw [a0, Int.mul_zero]
    split
    · rfl
    · exact Int.zero_ediv _
  have r0 : ar (cc P A) 74 x y = 0 := by
    unfold ar
    rw [a0, Int.mul_zero]
    split
    · rfl
    · exact Int.zero_emod _
  obtain ⟨y1, y2, y3, y4⟩ := (w4 x hx).2.2 y hy
  have e := u3 x y hx hy
  rw [gcn_z hy _ v (by rw [y3, r0]; omega), y4, f0] at e
  unfold TB
  rw [u1]
  exact e
theorem LV_n {f : Nat → Int} {R C g x : Nat} (M : MP f R C) (hg : g < 3) (hx : x < 8) (n : ¬ 0 < NC f R C 0 x) : LV f R C g x = 0 := by
  obtain ⟨p1, p2⟩ := PA_sh M hg
  have n0 := NC_nn f R C 0 x
  have l : L0 f R C g x = 0 := if_neg n
  have a : Ash f R C g 0 x = 0 := by
    unfold Ash
    rw [if_pos ⟨rfl, hx⟩, l]
    split <;> omega
  unfold LV
  rw [l, TB_Az p1 (by omega) (by omega) a]
  rfl
theorem LV_all {f : Nat → Int} {R C g : Nat} (M : MP f R C) (hg : g < 3) : sg (LV f R C g) 8 + ASf f R C g = sg (fun z => f (5 + 9 * g + z)) 9 := by
  obtain ⟨p1, p2⟩ := PA_sh M hg
  obtain ⟨l1, l2⟩ := L0_r M hg
  obtain ⟨t1, t2⟩ := TB_0 (md := 0) (.inl rfl) p1 (fun h => absurd h (by decide))
  have e := sg_add (L0 f R C g) (fun z => TB 0 (Psh f R C g) (Ash f R C g) 0 z) 8
  have a := t2 0 (by omega)
  have d : sg (fun z => TB 0 (Psh f R C g) (Ash f R C g) 0 z) 9 = sg (fun z => TB 0 (Psh f R C g) (Ash f R C g) 0 z) 8 + TB 0 (Psh f R C g) (Ash f R C g) 0 8 := rfl
  have n8 : TB 0 (Psh f R C g) (Ash f R C g) 0 8 = 0 := TB_Az p1 (by omega) (by omega) (p2 0 8 (by omega) (by omega) (by omega))
  have q0 : Psh f R C g 0 = UN f R C g - ASf f R C g := if_pos rfl
  have eL : sg (LV f R C g) 8 = sg (fun z => L0 f R C g z + TB 0 (Psh f R C g) (Ash f R C g) 0 z) 8 := rfl
  rw [q0] at a
  by_cases s : SHr f R C
  · have as0 : ASf f R C g = 0 := if_pos s
    have ex : ∃ z : Nat, z < 8 ∧ 0 < NC f R C 0 z := Classical.byContradiction fun q => by
      have : KD f R C 0 8 = 0 := sg_0 fun z hz => by
        unfold bi
        rw [if_neg (fun t => q ⟨z, hz, t⟩)]
      have := s.2
      omega
    obtain ⟨z, hz, nz⟩ := ex
    have Ann : ∀ y, y < 9 → 0 ≤ Ash f R C g 0 y := fun y hy => (p1.2.1 0 y (by omega) hy).1
    have tot : 0 < sg (fun y => Ash f R C g 0 y) 9 := by
      by_cases w : sg (L0 f R C g) 8 = 0
      · have q := sg_at (f := fun y => Ash f R C g 0 y) (n := 9) Ann z (by omega)
        have e : Ash f R C g 0 z = NC f R C 0 z := by
          unfold Ash
          rw [if_pos ⟨rfl, hz⟩, if_pos w]
        have q : Ash f R C g 0 z ≤ sg (fun y => Ash f R C g 0 y) 9 := q
        omega
      · have e : sg (fun y => Ash f R C g 0 y) 9 = sg (L0 f R C g) 8 := by
          show sg (fun y => Ash f R C g 0 y) 8 + Ash f R C g 0 8 = _
          rw [p2 0 8 (by omega) (by omega) (by omega), Int.add_zero]
          refine sg_eq fun y hy => ?_
          unfold Ash
          rw [if_pos ⟨rfl, hy⟩, if_neg w]
        have := sg_nn (f := L0 f R C g) (n := 8) l1
        omega
    rw [if_neg (by omega)] at a
    omega
  · have as0 : ASf f R C g = UN f R C g := if_neg s
    rw [as0] at a ⊢
    have a : sg (fun z => TB 0 (Psh f R C g) (Ash f R C g) 0 z) 9 = 0 := by
      rw [a]
      split <;> omega
    omega
theorem GV_all {f : Nat → Int} {R C g : Nat} (M : MP f R C) (h7 : f 2 = 7) (hg : g < 3) : sg (fun x => sg (fun y => GV f R C g x y) 9) 8 = sg (fun z => f (5 + 9 * g + z)) 9 - ASf f R C g := by
  obtain ⟨p1, p2⟩ := PA_mv M h7 hg
  obtain ⟨t1, t2⟩ := TB_0 (md := f 3) M.2.2.1 p1 (fun _ => p2)
  have e : sg (fun x => sg (fun y => GV f R C g x y) 9) 8 = sg (LV f R C g) 8 := sg_eq fun x hx => by
    have a : sg (fun y => GV f R C g x y) 9 = if sg (fun y => PMV f R C g x y) 9 ≤ 0 then 0 else LV f R C g x := t2 x hx
    rw [a]
    by_cases z : sg (fun y => PMV f R C g x y) 9 ≤ 0
    · rw [if_pos z]
      have s : sg (fun y => PMV f R C g x y) 9 = SO f R C g x (-1) (decide (SO f R C g x (-1) false = 0)) := SO_row M h7 x _
      have r := SO_r M h7 hg x (-1) (decide (SO f R C g x (-1) false = 0))
      exact (LV_n M hg hx ((tot_0 M h7 hg).mp (by omega))).symm
    · rw [if_neg z]
  have := LV_all M hg
  omega
/-! QUERIES: count -/
theorem sp_63 {s : gx_S} {f : Nat → Int} {R C : Nat} (m : MR s 1 f R C) (M : MP f R C) (l k : Nat) (hl : l < 3) (hk : k ≤ 8) : gm_63 1 l k s = some (KD f R C l k, s) := by
  have e : ∀ (n j : Nat), k < n + j → j ≤ k → gm_63_5 n 1 l k (KD f R C l j) j s = some (KD f R C l k, s) := by
    intro n
    induction n with
    | zero => intro j h; omega
    | succ n ih =>
      intro j h hj
      rw [gm_63_5, if_pos (by omega), if_pos (by omega)]
      by_cases q : j = k
      · rw [if_pos (by omega), q]
      · have ce : ((j : Int) + 1) = ((j + 1 : Nat) : Int) := rfl
        have n1 := NC_nn f R C l j
        have hRC := RC_96 M.1.2.2.1 M.1.2.2.2
        rw [← Int.natCast_mul] at n1
        rw [if_neg (by omega), sp_62g m M l j hl (by omega), Option.bind_some]
        show (if -2147483648 ≤ NC f R C l j ∧ NC f R C l j ≤ 2147483647 then (if NC f R C l j ≤ 0 then gm_63_24 (gm_63_5 n) 1 l k (KD f R C l j) j s else gm_63_24 (gm_63_5 n) 1 l k (KD f R C l j + 1) j s) else none) = _
        rw [if_pos (by omega)]
        unfold gm_63_24
        have st : KD f R C l (j + 1) = KD f R C l j + bi (0 < NC f R C l j) := rfl
        by_cases z : NC f R C l j ≤ 0
        · have b : bi (0 < NC f R C l j) = 0 := if_neg (by omega)
          rw [b, Int.add_zero] at st
          rw [if_pos z, ce, ← st]
          exact ih (j + 1) (by omega) (by omega)
        · have b : bi (0 < NC f R C l j) = 1 := if_pos (by omega)
          rw [b] at st
          rw [if_neg z, ce, ← st]
          exact ih (j + 1) (by omega) (by omega)
  unfold gm_63
  rw [if_pos (by decide +kernel)]
  exact e 100000 0 (by omega) (by omega)
end
section
/-! QUERIES: count, whole -/
/-- those moved, or left aside, in all groups up to n -/
def mva (f : Nat → Int) (R C n : Nat) : Int := sg (fun g => sg (fun z => f (5 + 9 * g + z)) 9 - ASf f R C g) n
def asa (f : Nat → Int) (R C n : Nat) : Int := sg (fun g => ASf f R C g) n
theorem sl_126 {f : Nat → Int} {R C n L : Nat} {pf : Nat → Nat → Int} {tb : Nat → Int} (M : MP f R C) (h7 : f 2 = 7) (b : Bool) : ∀ (m g : Nat) (s : gx_S), 3 < m + g → g ≤ 3 → CV s f R C n pf L tb → ∃ u : gx_S, gm_126_4 m (gb b) (if b = true then mva f R C g else asa f R C g) g s = some ((if b = true then mva f R C 3 else asa f R C 3), u) ∧ CV u f R C n pf L tb ∧ KC s u := by
  intro m
  induction m with
  | zero => intro g s h; omega
  | succ m ih =>
    intro g s h hg c
    rw [gm_126_4, if_pos (by omega)]
    by_cases q : g = 3
    · rw [if_pos (by omega), q]
      exact ⟨s, rfl, c, KC_rfl s⟩
    · have e6 : s.1 1 6 = f 2 := c.1.2.2.1
      have c57 := sp_57 (s := s) (a := 1) (by decide +kernel) (by rw [e6]; exact M.2.1)
      rw [e6] at c57
      have ce : ((g : Int) + 1) = ((g + 1 : Nat) : Int) := rfl
      obtain ⟨D, t, t1, t2, t3, t4, t5⟩ := CV_20 M (show g < 3 by omega) c
      obtain ⟨l1, l2, l3⟩ := t4.2.2.2.1 t5
      have kt : KC s t := KG_KC (ga_of (by omega)) t3
      rw [if_neg (by omega), c57, Option.bind_some, if_neg (fun t => (gbD s).mp t h7), if_pos (by omega), Option.bind_some, vg_ g (by omega)]
      show ∃ u : gx_S, ((gm_20 (71 + 48 * g) s).bind _) = _ ∧ _
      rw [t1, Option.bind_some]
      cases b with
      | false =>
        rw [if_pos (by decide), if_pos (show gb false = 0 from rfl)]
        unfold gm_126_59
        rw [l3, ce]
        have st : (if false = true then mva f R C g else asa f R C g) + ASf f R C g = (if false = true then mva f R C (g + 1) else asa f R C (g + 1)) := rfl
        rw [st]
        obtain ⟨u, u1, u2, u3⟩ := ih (g + 1) t (by omega) (by omega) t2
        exact ⟨u, u1, u2, KC_tr kt u3⟩
      | true =>
        rw [if_pos (by decide), if_neg (show ¬ gb true = 0 by decide), sp_66g t2.1 (show g < 3 by omega), Option.bind_some]
        unfold gm_126_59
        show ∃ u : gx_S, gm_126_4 m (gb true) ((if true = true then mva f R C g else asa f R C g) + (sg (fun z => f (5 + 9 * g + z)) 9 - (t.1 (71 + 48 * g) 7))) ((g : Int) + 1) t = _ ∧ _
        rw [l3, ce]
        have st : (if true = true then mva f R C g else asa f R C g) + (sg (fun z => f (5 + 9 * g + z)) 9 - ASf f R C g) = (if true = true then mva f R C (g + 1) else asa f R C (g + 1)) := rfl
        rw [st]
        obtain ⟨u, u1, u2, u3⟩ := ih (g + 1) t (by omega) (by omega) t2
        exact ⟨u, u1, u2, KC_tr kt u3⟩
theorem sl_224 {f : Nat → Int} {R C : Nat} (M : MP f R C) (h7 : f 2 = 7) : ∀ (m g : Nat) (s : gx_S), 3 < m + g → g ≤ 3 → s.1 216 = f → SC s → ∃ u : gx_S, gm_224_4 m (mva f R C g) g s = some (mva f R C 3, u) ∧ KRw s u := by
  intro m
  induction m with
  | zero => intro g s h; omega
  | succ m ih =>
    intro g s h hg ef S
    rw [gm_224_4, if_pos (by omega)]
    by_cases q : g = 3
    · rw [if_pos (by omega), q]
      exact ⟨s, rfl, KRw_rf s⟩
    · have ce : ((g : Int) + 1) = ((g + 1 : Nat) : Int) := rfl
      have c150 : gm_150 s = some (decide (f 2 = 7), s) := by
        have := sp_150 (s := s) (by rw [ef]; exact M.2.1)
        rw [ef] at this
        exact this
      obtain ⟨a, w, a1, w1, a2, w2, w3, w4, w5⟩ := sp_181f (s := s) (R := R) (C := C) (g := g) (by rw [ef]; exact M) (by rw [ef]; exact h7) (by omega) S
      rw [if_neg (by omega), c150, Option.bind_some, if_neg (fun t => (gbD s).mp t h7)]
      show ∃ u : gx_S, ((gm_181 g s).bind _) = _ ∧ _
      rw [a1, Option.bind_some, w1, Option.bind_some, sp_184 (R := 8) (m := 9) w3 w4 (by omega) (by omega), Option.bind_some]
      have e : sg (fun x => sg (fun y => w.2 224 (9 * x + y)) 9) 8 = sg (fun z => f (5 + 9 * g + z)) 9 - ASf f R C g := by
        rw [← GV_all M h7 (show g < 3 by omega)]
        exact sg_eq fun x hx => sg_eq fun y hy => by
          have := ((w5 x hx).2.2 y hy).2
          rw [ef] at this
          exact this
      show ∃ u : gx_S, gm_224_4 m (mva f R C g + sg (fun x => sg (fun y => w.2 224 (9 * x + y)) 9) 8) ((g : Int) + 1) w = _ ∧ _
      rw [e, ce]
      obtain ⟨u, u1, u2⟩ := ih (g + 1) w (by omega) (by omega) ((KR_216 w2).trans ef) (w2.2.2 S)
      exact ⟨u, u1, KRw_tr (KR_w w2) u2⟩
theorem sl_225 {f : Nat → Int} {R C : Nat} {s : gx_S} (M : MP f R C) (h7 : f 2 = 7) (ef : s.1 216 = f) : ∀ (m g : Nat), 3 < m + g → g ≤ 3 → gm_225_4 m (asa f R C g) g s = some (asa f R C 3, s) := by
  intro m
  induction m with
  | zero => intro g h; omega
  | succ m ih =>
    intro g h hg
    rw [gm_225_4, if_pos (by omega)]
    by_cases q : g = 3
    · rw [if_pos (by omega), q]
      rfl
    · have ce : ((g : Int) + 1) = ((g + 1 : Nat) : Int) := rfl
      have c150 : gm_150 s = some (decide (f 2 = 7), s) := by
        have := sp_150 (s := s) (by rw [ef]; exact M.2.1)
        rw [ef] at this
        exact this
      have c176 := sp_176 (s := s) (R := R) (C := C) (g := g) (by rw [ef]; exact M) (by omega)
      rw [ef] at c176
      rw [if_neg (by omega), c150, Option.bind_some, if_neg (fun t => (gbD s).mp t h7)]
      show ((gm_176 g s).bind _) = _
      rw [c176, Option.bind_some, ce]
      exact ih (g + 1) (by omega) (by omega)
theorem inv_count {s : gx_S} (h : INV s) {x : Int} (hx : i32 x) : two s (gm_111 x) (gm_226 x) := by
  obtain ⟨f, R, C, n, pf, L, tb, c, r, v⟩ := id h
  have hx' := hx
  unfold i32 at hx'
  have ef : s.1 216 = f := r.1
  have m := c.1
  have Ms : MP (s.1 216) R C := by rw [ef]; exact v.1
  have e6 : s.1 1 6 = f 2 := c.1.2.2.1
  have c57 := sp_57 (s := s) (a := 1) (by decide +kernel) (by rw [e6]; exact v.1.2.1)
  rw [e6] at c57
  have c150 : gm_150 s = some (decide (f 2 = 7), s) := by
    have := sp_150 (s := s) (by rw [ef]; exact v.1.2.1)
    rw [ef] at this
    exact this
  unfold two gm_111 gm_226
  rw [if_pos hx']
  by_cases x0 : x = 0
  · rw [if_pos x0, sp_58 (MR_cz m v.1), Option.bind_some]
    refine ⟨_, s, s, rfl, ?_, h⟩
    rw [if_pos hx', if_pos x0]
    unfold gm_151
    rw [Option.bind_some, ef, v.1.1.1, v.1.1.2.1, Int.natCast_mul]
  · rw [if_neg x0]
    by_cases x1 : x = 1
    · rw [if_pos x1]
      refine ⟨_, s, s, rfl, ?_, h⟩
      rw [if_pos hx', if_neg x0, if_pos x1, ef, m.1]
    · rw [if_neg x1]
      by_cases x2 : x = 2
      · have c63 := sp_63 m v.1 0 8 (by omega) (by omega)
        have c154 := sp_154 Ms 0 8 (by omega) (by omega)
        rw [ef] at c154
        have c63 : gm_63 1 0 8 s = _ := c63
        have c154 : gm_154 0 8 s = _ := c154
        rw [if_pos x2, c63, Option.bind_some]
        refine ⟨_, s, s, rfl, ?_, h⟩
        rw [if_pos hx', if_neg x0, if_neg x1, if_pos x2, c154, Option.bind_some]
      · rw [if_neg x2]
        by_cases x3 : x = 3
        · have c63 := sp_63 m v.1 1 8 (by omega) (by omega)
          have c154 := sp_154 Ms 1 8 (by omega) (by omega)
          rw [ef] at c154
          have c63 : gm_63 1 1 8 s = _ := c63
          have c154 : gm_154 1 8 s = _ := c154
          rw [if_pos x3, c63, Option.bind_some]
          refine ⟨_, s, s, rfl, ?_, h⟩
          rw [if_pos hx', if_neg x0, if_neg x1, if_neg x2, if_pos x3, c154, Option.bind_some]
        · rw [if_neg x3]
          by_cases x4 : x = 4
          · have c63 := sp_63 m v.1 2 4 (by omega) (by omega)
            have c154 := sp_154 Ms 2 4 (by omega) (by omega)
            rw [ef] at c154
            have c63 : gm_63 1 2 4 s = _ := c63
            have c154 : gm_154 2 4 s = _ := c154
            rw [if_pos x4, c63, Option.bind_some]
            refine ⟨_, s, s, rfl, ?_, h⟩
            rw [if_pos hx', if_neg x0, if_neg x1, if_neg x2, if_neg x3, if_pos x4, c154, Option.bind_some]
          · rw [if_neg x4]
            by_cases x5 : x = 5
            · rw [if_pos x5]
              refine ⟨_, s, s, rfl, ?_, h⟩
              rw [if_pos hx', if_neg x0, if_neg x1, if_neg x2, if_neg x3, if_neg x4, if_pos x5, ef, m.2.2.2.1]
            · rw [if_neg x5]
              by_cases x6 : x = 6
              · rw [if_pos x6]
                refine ⟨_, s, s, rfl, ?_, h⟩
                rw [if_pos hx', if_neg x0, if_neg x1, if_neg x2, if_neg x3, if_neg x4, if_neg x5, if_pos x6, ef, m.2.2.2.2.1]
              · rw [if_neg x6]
                by_cases x7 : x = 7
                · rw [if_pos x7]
                  refine ⟨_, s, s, rfl, ?_, h⟩
                  rw [if_pos hx', if_neg x0, if_neg x1, if_neg x2, if_neg x3, if_neg x4, if_neg x5, if_neg x6, if_pos x7, ef, e6]
                · rw [if_neg x7]
                  by_cases x8 : x = 8
                  · obtain ⟨_, p, _, _, p2, _⟩ := c.2.2.1
                    rw [if_pos x8]
                    refine ⟨_, s, s, rfl, ?_, h⟩
                    rw [if_pos hx', if_neg x0, if_neg x1, if_neg x2, if_neg x3, if_neg x4, if_neg x5, if_neg x6, if_neg x7, if_pos x8, p2, r.2.1.1]
                  · rw [if_neg x8]
                    by_cases x9 : x = 9
                    · rw [if_pos x9]
                      refine ⟨_, s, s, rfl, ?_, h⟩
                      rw [if_pos hx', if_neg x0, if_neg x1, if_neg x2, if_neg x3, if_neg x4, if_neg x5, if_neg x6, if_neg x7, if_neg x8, if_pos x9, c.2.2.2.1, r.2.2.1]
                    · rw [if_neg x9]
                      by_cases x10 : x = 10
                      · rw [if_pos x10]
                        by_cases h7 : f 2 = 7
                        · obtain ⟨u, u1, u2, u3⟩ := sl_126 v.1 h7 true 100000 0 s (by omega) (by omega) c
                          have u1 : gm_126 1 s = some (mva f R C 3, u) := u1
                          have ru := RV_KC u3 r
                          obtain ⟨w, w1, w2⟩ := sl_224 v.1 h7 100000 0 u (by omega) (by omega) ru.1 ru.2.2.2.2
                          have w1 : gm_224 u = some (mva f R C 3, w) := w1
                          rw [u1, Option.bind_some]
                          refine ⟨_, u, w, rfl, ?_, q_inv u3 u2 r v w2⟩
                          rw [if_pos hx', if_neg x0, if_neg x1, if_neg x2, if_neg x3, if_neg x4, if_neg x5, if_neg x6, if_neg x7, if_neg x8, if_neg x9, if_pos x10, w1, Option.bind_some]
                        · have g1 : gm_126 1 s = some (0, s) := by
                            unfold gm_126
                            rw [show (100000 : Nat) = 99999 + 1 from rfl, gm_126_4, if_pos (by decide), if_neg (by decide), c57, Option.bind_some, if_pos ((gbD s).mpr h7)]
                            rfl
                          have g2 : gm_224 s = some (0, s) := by
                            unfold gm_224
                            rw [show (100000 : Nat) = 99999 + 1 from rfl, gm_224_4, if_pos (by decide), if_neg (by decide), c150, Option.bind_some, if_pos ((gbD s).mpr h7)]
                            rfl
                          rw [g1, Option.bind_some]
                          refine ⟨_, s, s, rfl, ?_, h⟩
                          rw [if_pos hx', if_neg x0, if_neg x1, if_neg x2, if_neg x3, if_neg x4, if_neg x5, if_neg x6, if_neg x7, if_neg x8, if_neg x9, if_pos x10, g2, Option.bind_some]
                      · rw [if_neg x10]
                        by_cases x11 : x = 11
                        · rw [if_pos x11]
                          by_cases h7 : f 2 = 7
                          · obtain ⟨u, u1, u2, u3⟩ := sl_126 v.1 h7 false 100000 0 s (by omega) (by omega) c
                            have u1 : gm_126 0 s = some (asa f R C 3, u) := u1
                            have ru := RV_KC u3 r
                            have w1 := sl_225 v.1 h7 ru.1 100000 0 (by omega) (by omega)
                            have w1 : gm_225 u = some (asa f R C 3, u) := w1
                            rw [u1, Option.bind_some]
                            refine ⟨_, u, u, rfl, ?_, q_inv u3 u2 r v (KRw_rf u)⟩
                            rw [if_pos hx', if_neg x0, if_neg x1, if_neg x2, if_neg x3, if_neg x4, if_neg x5, if_neg x6, if_neg x7, if_neg x8, if_neg x9, if_neg x10, if_pos x11, w1, Option.bind_some]
                          · have g1 : gm_126 0 s = some (0, s) := by
                              unfold gm_126
                              rw [show (100000 : Nat) = 99999 + 1 from rfl, gm_126_4, if_pos (by decide), if_neg (by decide), c57, Option.bind_some, if_pos ((gbD s).mpr h7)]
                              rfl
                            have g2 : gm_225 s = some (0, s) := by
                              unfold gm_225
                              rw [show (100000 : Nat) = 99999 + 1 from rfl, gm_225_4, if_pos (by decide), if_neg (by decide), c150, Option.bind_some, if_pos ((gbD s).mpr h7)]
                              rfl
                            rw [g1, Option.bind_some]
                            refine ⟨_, s, s, rfl, ?_, h⟩
                            rw [if_pos hx', if_neg x0, if_neg x1, if_neg x2, if_neg x3, if_neg x4, if_neg x5, if_neg x6, if_neg x7, if_neg x8, if_neg x9, if_neg x10, if_pos x11, g2, Option.bind_some]
                        · rw [if_neg x11]
                          refine ⟨_, s, s, rfl, ?_, h⟩
                          rw [if_pos hx', if_neg x0, if_neg x1, if_neg x2, if_neg x3, if_neg x4, if_neg x5, if_neg x6, if_neg x7, if_neg x8, if_neg x9, if_neg x10, if_neg x11]
end
section
/-! QUERIES: exact: Euclid's steps, fewer than a hundred -/
def Fb : Nat → Nat → Nat → Bool
  | 0, p, q => p == 1 && q == 1
  | n + 1, p, q => decide (p ≤ q) && Fb n (q - p) p
theorem sl_128f : ∀ (n fu p q a b j : Nat) (s : gx_S), Fb n p q = true → b < a → (b < p ∨ a < q) → j + n < 100 → n < fu → a ≤ 9000000000000000000 → gm_128_9 fu a b j s = some (((Nat.gcd a b : Nat) : Int), s) := by
  intro n
  induction n with
  | zero =>
    intro fu p q a b j s h hb hh hj hf ha
    obtain ⟨fu, rfl⟩ : ∃ m, fu = m + 1 := ⟨fu - 1, by omega⟩
    have h : (p == 1 && q == 1) = true := h
    rw [Bool.and_eq_true, beq_iff_eq, beq_iff_eq] at h
    have b0 : b = 0 := by omega
    subst b0
    rw [gm_128_9, Nat.gcd_zero_right, if_pos (by omega), if_neg (by omega), if_pos (by decide), if_pos (show ((0 : Nat) : Int) = 0 from rfl)]
    rfl
  | succ n ih =>
    intro fu p q a b j s h hb hh hj hf ha
    obtain ⟨fu, rfl⟩ : ∃ m, fu = m + 1 := ⟨fu - 1, by omega⟩
    have h : (decide (p ≤ q) && Fb n (q - p) p) = true := h
    rw [Bool.and_eq_true, decide_eq_true_eq] at h
    rw [gm_128_9, if_pos (by omega), if_neg (by omega), if_pos (by omega)]
    by_cases b0 : b = 0
    · subst b0
      rw [Nat.gcd_zero_right, if_pos (show ((0 : Nat) : Int) = 0 from rfl)]
      rfl
    · have e1 : (a : Int) % (b : Int) = ((a % b : Nat) : Int) := rfl
      have c1 : ((j : Int) + 1) = ((j + 1 : Nat) : Int) := rfl
      have m1 := Nat.mod_lt a (Nat.pos_of_ne_zero b0)
      have g1 : Nat.gcd a b = Nat.gcd b (a % b) := by rw [Nat.gcd_comm a b, Nat.gcd_rec b a, Nat.gcd_comm]
      have ab : b + a % b ≤ a := by
        have d := Nat.div_add_mod a b
        have d1 : 1 ≤ a / b := (Nat.one_le_div_iff (Nat.pos_of_ne_zero b0)).mpr (by omega)
        have d2 := Nat.mul_le_mul_left b d1
        omega
      rw [if_neg (by omega), if_pos (by omega), e1, c1, g1]
      exact ih fu (q - p) p b (a % b) (j + 1) s h.2 m1 (by omega) (by omega) (by omega) (by omega)
theorem sp_128f (s : gx_S) {a b : Nat} (ha : a < b) (hb : b ≤ 20000000000000000) : gm_128 a b s = some (((Nat.gcd a b : Nat) : Int), s) := by
  unfold gm_128
  have e1 : (a : Int) % (b : Int) = (a : Int) := Int.emod_eq_of_lt (by omega) (by omega)
  have i := sl_128f 78 99999 14472334024676221 23416728348467685 b a 1 s (by decide +kernel) ha (.inr (by omega)) (by omega) (by omega) (by omega)
  rw [show (100000 : Nat) = 99999 + 1 from rfl, gm_128_9, if_pos (by decide), if_neg (by decide), if_pos (by omega), if_neg (by omega), if_pos (by omega), e1, Nat.gcd_comm]
  exact i
theorem sp_127f (s : gx_S) {a b : Nat} {w : Int} (ha : a < b) (hb : b ≤ 20000000000000000) (hw : i32 w) : gm_127 a b w s = some ((if ¬ w = 0 then (b : Int) else (a : Int)) / ((Nat.gcd a b : Nat) : Int), s) := by
  unfold i32 at hw
  have b0 : 0 < b := by omega
  have g0 : 0 < Nat.gcd a b := Nat.gcd_pos_of_pos_right a b0
  have g1 : Nat.gcd a b ≤ b := Nat.gcd_le_right a b0
  unfold gm_127
  rw [sp_128f s ha hb, Option.bind_some]
  show (if (-9223372036854775808 ≤ ((Nat.gcd a b : Nat) : Int) ∧ ((Nat.gcd a b : Nat) : Int) ≤ 9223372036854775807) then (if ¬ ((Nat.gcd a b : Nat) : Int) = 0 then (if (-2147483648 ≤ w ∧ w ≤ 2147483647) then (if ¬ w = 0 then gm_127_28 ((Nat.gcd a b : Nat) : Int) b s else gm_127_28 ((Nat.gcd a b : Nat) : Int) a s) else none) else some ((-1), s)) else none) = _
  rw [if_pos (by omega), if_pos (show ¬ ((Nat.gcd a b : Nat) : Int) = 0 by omega), if_pos hw]
  unfold gm_127_28
  by_cases z : ¬ w = 0
  · rw [if_pos z, if_pos z, if_pos (by omega)]
  · rw [if_neg z, if_neg z, if_pos (by omega)]
theorem sp_194f (s : gx_S) {a b : Nat} {w : Int} (ha : a < b) (hb : b ≤ 20000000000000000) (hw : i32 w) : gm_194 a b w s = some ((if ¬ w = 0 then (b : Int) else (a : Int)) / ((Nat.gcd a b : Nat) : Int), s) := by
  unfold i32 at hw
  have b0 : 0 < b := by omega
  have g0 : 0 < Nat.gcd a b := Nat.gcd_pos_of_pos_right a b0
  have g1 : Nat.gcd a b ≤ b := Nat.gcd_le_right a b0
  have c : gm_164 a b s = some (((Nat.gcd a b : Nat) : Int), s) := sl_164 60 100000 a b s (by omega) (by omega) (by omega) (by omega)
  unfold gm_194
  rw [c, Option.bind_some, if_pos hw]
  by_cases z : ¬ w = 0
  · rw [if_pos z, if_pos z, if_pos (by omega)]
  · rw [if_neg z, if_neg z, if_pos (by omega)]
theorem cm_c {v w : Nat → Int} : ∀ {n : Nat}, (∀ k, k < n → v k = w k) → cm v n = cm w n
  | 0, _ => rfl
  | n + 1, h => by
    show (if v n ≤ 0 then cm v n else Nat.lcm (cm v n) (v n).toNat) = (if w n ≤ 0 then cm w n else Nat.lcm (cm w n) (w n).toNat)
    rw [h n (by omega), cm_c (n := n) fun k hk => h k (by omega)]
theorem sl_77 {t c : Nat} {s : gx_S} (hc : c < 9) : ∀ (n j : Nat), 8 < n + j → j ≤ 8 → gm_77_4 n t c (sg (fun r => s.1 (t + 6) (9 * r + c)) j) j s = some (sg (fun r => s.1 (t + 6) (9 * r + c)) 8, s) := by
  intro n
  induction n with
  | zero => intro j h; omega
  | succ n ih =>
    intro j h hj
    rw [gm_77_4, if_pos (by omega)]
    by_cases q : j = 8
    · rw [if_pos (by omega), q]
    · have ce : ((j : Int) + 1) = ((j + 1 : Nat) : Int) := rfl
      rw [if_neg (by omega), if_pos (by omega), show (((j : Int) * 9) + (c : Int)).toNat = 9 * j + c by omega, ce]
      exact ih (j + 1) (by omega) (by omega)
theorem sp_77 {t c : Nat} {s : gx_S} (ht : fx_oc t 7 = true) (hc : c < 9) : gm_77 t c s = some (sg (fun r => s.1 (t + 6) (9 * r + c)) 8, s) := by
  unfold gm_77
  rw [if_pos ht]
  exact sl_77 hc 100000 0 (by omega) (by omega)
end
section
/-! QUERIES: exact: the reference's running fraction -/
def vt (A : Nat → Nat → Int) (x : Nat) : Int := sg (fun y => A x y) 9
def Tx (P : Nat → Int) (A : Nat → Nat → Int) (z : Nat) (K : Int) (r : Nat) : Int := if vt A r ≤ 0 then 0 else rsv P A r z * (K / vt A r)
theorem rsv_r {P : Nat → Int} {A : Nat → Nat → Int} (h : PA P A) {x y : Nat} (hx : x < 8) (hy : y < 9) : 0 ≤ rsv P A x y ∧ (0 < vt A x → rsv P A x y < vt A x) := by
  have a := (h.2.1 x y hx hy).1
  have p := (h.1 x hx).1
  unfold rsv vt
  by_cases z : sg (fun y => A x y) 9 ≤ 0
  · rw [if_pos z]
    exact ⟨by omega, fun q => by omega⟩
  · rw [if_neg z]
    exact ⟨Int.emod_nonneg _ (by omega), fun q => Int.emod_lt_of_pos _ q⟩
theorem vt_r {P : Nat → Int} {A : Nat → Nat → Int} (h : PA P A) (h8 : sg (fun x => sg (fun y => A x y) 9) 8 ≤ 864) {x : Nat} (hx : x < 8) : 0 ≤ vt A x ∧ vt A x ≤ 864 := by
  have n : ∀ x, x < 8 → 0 ≤ vt A x := fun x hx => sg_nn fun y hy => (h.2.1 x y hx hy).1
  have := sg_at (f := vt A) (n := 8) n x hx
  have e : sg (vt A) 8 ≤ 864 := h8
  exact ⟨n x hx, by omega⟩
theorem Tx_r {P : Nat → Int} {A : Nat → Nat → Int} (h : PA P A) {z : Nat} {K : Nat} (hz : z < 9) (hK : ∀ x, x < 8 → 0 < vt A x → (vt A x).toNat ∣ K) {x : Nat} (hx : x < 8) : 0 ≤ Tx P A z K x ∧ Tx P A z K x ≤ K := by
  have r := rsv_r h hx hz
  unfold Tx
  by_cases q : vt A x ≤ 0
  · rw [if_pos q]
    omega
  · rw [if_neg q]
    obtain ⟨k, hk⟩ := hK x hx (by omega)
    have e : (K : Int) = vt A x * k := by
      rw [hk, Int.natCast_mul, Int.toNat_of_nonneg (by omega)]
    have d : (K : Int) / vt A x = k := by
      rw [e, Int.mul_ediv_cancel_left _ (by omega)]
    rw [d]
    refine ⟨Int.mul_nonneg r.1 (by omega), ?_⟩
    rw [e]
    exact Int.mul_le_mul_of_nonneg_right (by have := r.2 (by omega); omega) (by omega)
theorem sl_196 {P : Nat → Int} {A : Nat → Nat → Int} {z K : Nat} {w : Int} (h : PA P A) (h8 : sg (fun x => sg (fun y => A x y) 9) 8 ≤ 864) (hz : z < 9) (hK : K = cm (vt A) 8) (hw : 0 ≤ w ∧ w ≤ 2) : ∀ (n j : Nat) (s : gx_S), 8 < n + j → j ≤ 8 → s.1 215 18 = 9 → (∀ x, x < 8 → s.2 221 x = P x ∧ ∀ y, y < 9 → s.1 222 (9 * x + y) = A x y) → s.2 215 30 = (cm (vt A) j : Nat) → s.2 215 29 * (K : Int) = (cm (vt A) j : Nat) * sg (Tx P A z K) j → SC s → ∃ u : gx_S, gm_196_63 n z w (sg (fun x => flv P A x z) j) j s = some (if ¬ w = 0 then (if ¬ w - 1 = 0 then (K : Int) else sg (Tx P A z K) 8 % K) / ((Nat.gcd (sg (Tx P A z K) 8 % K).toNat K : Nat) : Int) else sg (fun x => flv P A x z) 8 + sg (Tx P A z K) 8 / K, u) ∧ KRw s u := by
  have v0 : ∀ k, k < 8 → 0 ≤ vt A k := fun k hk => (vt_r h h8 hk).1
  have cB : ∀ n, n ≤ 8 → cm (vt A) n ≤ 20000000000000000 := fun n hn => cm_B v0 h8 hn
  have K0 : 0 < K := by rw [hK]; exact cm_pos _ 8
  have KB : K ≤ 20000000000000000 := by rw [hK]; exact cB 8 (by omega)
  have dv : ∀ x, x < 8 → 0 < vt A x → (vt A x).toNat ∣ K := fun x hx hp => by rw [hK]; exact cm_dvd hx hp
  have cd : ∀ j, j ≤ 8 → cm (vt A) j ∣ K := fun j hj => by
    rw [hK]
    have : ∀ d, cm (vt A) j ∣ cm (vt A) (j + d) := fun d => by
      induction d with
      | zero => exact Nat.dvd_refl _
      | succ d ih =>
        refine Nat.dvd_trans ih ?_
        show _ ∣ (if vt A (j + d) ≤ 0 then cm (vt A) (j + d) else Nat.lcm (cm (vt A) (j + d)) (vt A (j + d)).toNat)
        split
        · exact Nat.dvd_refl _
        · exact Nat.dvd_lcm_left _ _
    have := this (8 - j)
    rw [show j + (8 - j) = 8 by omega] at this
    exact this
  have TB8 : 0 ≤ sg (Tx P A z K) 8 ∧ sg (Tx P A z K) 8 ≤ 8 * K := by
    refine ⟨sg_nn fun x hx => (Tx_r h hz dv hx).1, ?_⟩
    have := sg_le (f := Tx P A z K) (g := fun _ => (K : Int) * 1) (n := 8) fun x hx => by
      show _ ≤ (K : Int) * 1
      rw [Int.mul_one]
      exact (Tx_r h hz dv hx).2
    rw [sg_mul, sg_one] at this
    omega
  intro n
  induction n with
  | zero => intro j s h; omega
  | succ n ih =>
    intro j s hn hj e18 eA e30 e29 S
    rw [gm_196_63, if_pos (by omega)]
    by_cases q : j = 8
    · have n29 : s.2 215 29 = sg (Tx P A z K) 8 := by
        rw [q, ← hK, Int.mul_comm] at e29
        exact Int.eq_of_mul_eq_mul_left (by omega) e29
      rw [q, ← hK] at e30
      rw [if_pos (by omega), n29, e30, if_pos (by omega), if_pos (by omega), q]
      by_cases t : ¬ w = 0
      · have m0 := Int.emod_nonneg (sg (Tx P A z K) 8) (show (K : Int) ≠ 0 by omega)
        have m1 := Int.emod_lt_of_pos (sg (Tx P A z K) 8) (show (0 : Int) < K by omega)
        obtain ⟨a, ha⟩ : ∃ a : Nat, sg (Tx P A z K) 8 % (K : Int) = a := ⟨_, (Int.toNat_of_nonneg m0).symm⟩
        rw [if_pos t, if_pos t, ha]
        rw [sp_194f s (by omega) KB (show i32 (w - 1) by unfold i32; omega), Option.bind_some]
        exact ⟨s, rfl, KRw_rf s⟩
      · rw [if_neg t, if_neg t]
        exact ⟨s, rfl, KRw_rf s⟩
    · have i5 : ((j : Int)).toNat = j := by omega
      have ce : ((j : Int) + 1) = ((j + 1 : Nat) : Int) := rfl
      have vr := vt_r h h8 (show j < 8 by omega)
      have ej : sg (fun c => s.1 222 (9 * j + c)) 9 = vt A j := sg_eq fun y hy => (eA j (by omega)).2 y hy
      have c61 := sp_161 (s := s) (r := j) (m := 9) (by omega) (by omega) e18
      rw [ej] at c61
      obtain ⟨a, ha⟩ : ∃ a, a = gw1 s 223 j (vt A j) := ⟨_, rfl⟩
      rw [← ha] at c61
      have a1 : ∀ k i, k ≠ 223 → a.1 k i = s.1 k i := fun k i q => by rw [ha, gw1_1, if_neg (by omega)]
      have a2 : a.2 = s.2 := by rw [ha]; rfl
      have aS : SC a := ⟨fun j hj => by rw [a2, a1 232 j (by decide), a1 233 j (by decide), a1 234 j (by decide)]; exact S.1 j hj, fun d hd => by rw [a2, a1 235 d (by decide)]; exact S.2.1 d hd, fun k hk => by rw [a2]; exact S.2.2 k hk⟩
      have aK : KRw s a := ⟨fun k i q => a1 k i (by omega), fun k i _ => by rw [a2], fun _ => aS⟩
      rw [if_neg (by omega), c61, Option.bind_some]
      show ∃ u : gx_S, (if (-2147483648 ≤ vt A j ∧ vt A j ≤ 2147483647) then (if vt A j ≤ 0 then gm_196_125 (gm_196_63 n) z w (sg (fun x => flv P A x z) j) j a else ((gm_162 j a).bind _)) else none) = _ ∧ _
      rw [if_pos (by omega)]
      by_cases zz : vt A j ≤ 0
      · have f0 : flv P A j z = 0 := if_pos zz
        have t0 : Tx P A z K j = 0 := if_pos zz
        have c0 : cm (vt A) (j + 1) = cm (vt A) j := if_pos zz
        have sf : sg (fun x => flv P A x z) (j + 1) = sg (fun x => flv P A x z) j := by
          show sg (fun x => flv P A x z) j + flv P A j z = _
          rw [f0, Int.add_zero]
        have st : sg (Tx P A z K) (j + 1) = sg (Tx P A z K) j := by
          show sg (Tx P A z K) j + Tx P A z K j = _
          rw [t0, Int.add_zero]
        rw [if_pos zz]
        unfold gm_196_125
        rw [ce, ← sf]
        obtain ⟨u, u1, u2⟩ := ih (j + 1) a (by omega) (by omega) (by rw [a1 _ _ (by decide)]; exact e18) (fun x hx => ⟨by rw [a2]; exact (eA x hx).1, fun y hy => by rw [a1 _ _ (by decide)]; exact (eA x hx).2 y hy⟩) (by rw [a2, c0]; exact e30) (by rw [a2, c0, st]; exact e29) aS
        exact ⟨u, u1, KRw_tr aK u2⟩
      · have pr := h.1 j (by omega)
        have aj : a.1 223 j = vt A j := by rw [ha, gw1_1, if_pos ⟨rfl, rfl⟩]
        have a22 : ∀ y, y < 9 → a.1 222 (9 * j + y) = A j y := fun y hy => by rw [a1 _ _ (by decide)]; exact (eA j (by omega)).2 y hy
        have a21 : a.2 221 j = P j := by rw [a2]; exact (eA j (by omega)).1
        have c62 := sp_162 (s := a) (r := j) (m := 9) (by omega) (by omega) (by rw [a1 _ _ (by decide)]; exact e18) (by rw [a21]; omega) (fun y hy => by
          rw [a22 y hy]
          exact h.2.1 j y (by omega) hy) (by rw [aj]; omega)
        have b4 : (ct a j 9).2 224 (9 * j + z) = flv P A j z := by
          rw [ct_4 (by omega), if_pos (by omega)]
          unfold flq flv
          rw [show (9 * j + z) / 9 = j by omega, aj, a21, a22 z hz, if_neg (by omega)]
          exact (if_neg zz).symm
        have b5 : ∀ y, y < 9 → (ct a j 9).2 225 (9 * j + y) = rsv P A j y := fun y hy => by
          rw [ct_5 (by omega), if_pos (by omega)]
          unfold rsq rsv
          rw [show (9 * j + y) / 9 = j by omega, aj, a21, a22 y hy, if_neg (by omega)]
          exact (if_neg zz).symm
        obtain ⟨b, hb⟩ : ∃ b, b = ct a j 9 := ⟨_, rfl⟩
        rw [← hb] at c62 b4 b5
        have b1 : b.1 = a.1 := by rw [hb]; rfl
        have bo : ∀ k i, k ≠ 224 → k ≠ 225 → b.2 k i = s.2 k i := fun k i h1 h2 => by rw [hb, ct_o _ _ _ _ _ h1 h2, a2]
        have bS : SC b := ⟨fun i hi => by
          refine ⟨by rw [b1]; exact (aS.1 i hi).1, by rw [b1]; exact (aS.1 i hi).2.1, by rw [b1]; exact (aS.1 i hi).2.2.1, ?_⟩
          by_cases y : 9 * j ≤ i ∧ i < 9 * j + 9
          · have := b5 (i - 9 * j) (by omega)
            rw [show 9 * j + (i - 9 * j) = i by omega] at this
            have r := rsv_r h (show j < 8 by omega) (show i - 9 * j < 9 by omega)
            have := r.2 (by omega)
            omega
          · rw [hb, ct_5 (by omega), if_neg y]
            exact (aS.1 i hi).2.2.2, fun d hd => by rw [bo _ _ (by decide) (by decide), bo _ _ (by decide) (by decide), bo _ _ (by decide) (by decide), bo _ _ (by decide) (by decide), b1, a1 235 d (by decide)]; exact S.2.1 d hd, fun k hk => by rw [bo _ _ (by decide) (by decide)]; exact S.2.2 k hk⟩
        have bj : b.1 223 j = (((vt A j).toNat : Nat) : Int) := by rw [b1, aj]; omega
        have b30 : b.2 215 30 = (cm (vt A) j : Nat) := by rw [bo _ _ (by decide) (by decide)]; exact e30
        have b29 : b.2 215 29 = s.2 215 29 := bo _ _ (by decide) (by decide)
        have cj := cm_pos (vt A) j
        have c1 : cm (vt A) (j + 1) = Nat.lcm (cm (vt A) j) (vt A j).toNat := if_neg zz
        have c165 := sp_165 (s := b) (x := rsv P A j z) (d := cm (vt A) j) (t := (vt A j).toNat) b30 cj (by omega) (by omega) (by rw [← c1]; exact cB (j + 1) (by omega))
        obtain ⟨f1, f2⟩ := add_fr (x := rsv P A j z) cj (show 0 < (vt A j).toNat by omega) (cd j (by omega)) (dv j (by omega) (by omega)) e29
        rw [← c1] at c165 f2
        rw [if_neg zz, c62, Option.bind_some]
        unfold gm_160
        rw [Option.bind_some]
        show ∃ u : gx_S, (if 0 ≤ (9 * (j : Int)) + (z : Int) ∧ (9 * (j : Int)) + (z : Int) < 72 then (if 0 ≤ (9 * (j : Int)) + (z : Int) ∧ (9 * (j : Int)) + (z : Int) < 72 then (if 0 ≤ (j : Int) ∧ (j : Int) < 8 then (if (-2147483648 ≤ (b.1 223 (j : Int).toNat) ∧ (b.1 223 (j : Int).toNat) ≤ 2147483647) then ((gm_165 (b.2 225 ((9 * (j : Int)) + (z : Int)).toNat) (b.1 223 (j : Int).toNat) b).bind fun q31 => gm_196_125 (gm_196_63 n) z w (sg (fun x => flv P A x z) j + (b.2 224 ((9 * (j : Int)) + (z : Int)).toNat)) j q31) else none) else none) else none) else none) = _ ∧ _
        rw [if_pos (by omega), if_pos (by omega), if_pos (by omega), i5, show ((9 * (j : Int)) + (z : Int)).toNat = 9 * j + z by omega, b4, b5 z hz, bj, if_pos (by omega), c165, Option.bind_some]
        unfold gm_196_125
        obtain ⟨d, hd⟩ : ∃ d, d = gw2 (gw2 b 215 29 (b.2 215 29 * (((cm (vt A) (j + 1) : Nat) : Int) / ((cm (vt A) j : Nat) : Int)) + rsv P A j z * (((cm (vt A) (j + 1) : Nat) : Int) / (((vt A j).toNat : Nat) : Int)))) 215 30 ((cm (vt A) (j + 1) : Nat) : Int) := ⟨_, rfl⟩
        rw [← hd, ce]
        have d1 : ∀ k i, d.1 k i = a.1 k i := fun k i => by rw [hd, gw2_1, gw2_1, b1]
        have d2 : ∀ k i, k ≠ 215 → d.2 k i = b.2 k i := fun k i q => by rw [hd, gw2_2, if_neg (by omega), gw2_2, if_neg (by omega)]
        have dS : SC d := ⟨fun i hi => by rw [d1, d1, d1, d2 _ _ (by decide), ← b1]; exact bS.1 i hi, fun e he => by rw [d1, d2 _ _ (by decide), d2 _ _ (by decide), d2 _ _ (by decide), d2 _ _ (by decide), ← b1]; exact bS.2.1 e he, fun k hk => by rw [d2 _ _ (by decide)]; exact bS.2.2 k hk⟩
        have dK : KRw s d := ⟨fun k i q => by rw [d1, a1 k i (by omega)], fun k i q => by rw [d2 k i (by omega), bo k i (by omega) (by omega)], fun _ => dS⟩
        have sT : Tx P A z K j = rsv P A j z * ((K : Int) / (((vt A j).toNat : Nat) : Int)) := by
          unfold Tx
          rw [if_neg zz, Int.toNat_of_nonneg vr.1]
        obtain ⟨u, u1, u2⟩ := ih (j + 1) d (by omega) (by omega) (by rw [d1, a1 _ _ (by decide)]; exact e18) (fun x hx => ⟨by rw [d2 _ _ (by decide), bo _ _ (by decide) (by decide)]; exact (eA x hx).1, fun y hy => by rw [d1, a1 _ _ (by decide)]; exact (eA x hx).2 y hy⟩) (by rw [hd, gw2_2, if_pos ⟨rfl, rfl⟩]) (by
          have e : d.2 215 29 = s.2 215 29 * (((cm (vt A) (j + 1) : Nat) : Int) / ((cm (vt A) j : Nat) : Int)) + rsv P A j z * (((cm (vt A) (j + 1) : Nat) : Int) / (((vt A j).toNat : Nat) : Int)) := by
            rw [hd, gw2_2, if_neg (by omega), gw2_2, if_pos ⟨rfl, rfl⟩, b29]
          rw [e, f2]
          show _ = ((cm (vt A) (j + 1) : Nat) : Int) * (sg (Tx P A z K) j + Tx P A z K j)
          rw [sT]) dS
        exact ⟨u, u1, KRw_tr dK u2⟩
end
section
/-! QUERIES: exact, whole -/
theorem inv_exact {s : gx_S} (h : INV s) {x z w : Int} (hx : i32 x) (hz : i32 z) (hw : i32 w) : two s (gm_100 x z w) (gm_196 x z w) := by
  obtain ⟨f, R, C, n, pf, L, tb, c, r, v⟩ := id h
  have hx' := hx
  have hz' := hz
  have hw' := hw
  unfold i32 at hx' hz' hw'
  have c118 := sp_118 c.1 v.1 hx hz
  have c150 : ∀ t : gx_S, t.1 216 = f → gm_150 t = some (decide (f 2 = 7), t) := fun t et => by
    have := sp_150 (s := t) (by rw [et]; exact v.1.2.1)
    rw [et] at this
    exact this
  have s2 : ∀ y : gx_S, y.1 216 = f → gm_196 x z w y = if ((0 ≤ x ∧ x < 3) ∧ (0 ≤ z ∧ z ≤ 8) ∧ f 2 = 7) ∧ (0 ≤ w ∧ w ≤ 2) then ((gm_181 x y).bind fun q63 => gm_196_63 100000 z w 0 0 (gw2 (gw2 q63 215 29 0) 215 30 1)) else some (-1, y) := fun y ey => by
    unfold gm_196
    rw [c150 y ey, Option.bind_some]
    by_cases h7 : f 2 = 7
    · rw [if_neg (fun q => (gbD s).mp q h7)]
      show ((gm_148 x y).bind _) = _
      rw [sp_148 y hx, Option.bind_some]
      by_cases a : 0 ≤ x ∧ x ≤ 2
      · rw [if_neg (fun q => (gbD s).mp q a), if_pos hz', in_ y hz (by omega) (by omega), Option.bind_some]
        by_cases b : 0 ≤ z ∧ z ≤ 8
        · rw [if_neg (fun q => (gbD s).mp q b), if_pos hw', in_ y hw (by omega) (by omega), Option.bind_some]
          by_cases d : 0 ≤ w ∧ w ≤ 2
          · rw [if_pos (fun q => (gbD s).mp q d), if_pos (show ((0 ≤ x ∧ x < 3) ∧ (0 ≤ z ∧ z ≤ 8) ∧ f 2 = 7) ∧ (0 ≤ w ∧ w ≤ 2) by omega)]
          · rw [if_neg (fun q => q ((gbD s).mpr d)), if_neg (show ¬ (((0 ≤ x ∧ x < 3) ∧ (0 ≤ z ∧ z ≤ 8) ∧ f 2 = 7) ∧ (0 ≤ w ∧ w ≤ 2)) from fun q => d q.2)]
            rfl
        · rw [if_pos ((gbD s).mpr b), if_neg (show ¬ (((0 ≤ x ∧ x < 3) ∧ (0 ≤ z ∧ z ≤ 8) ∧ f 2 = 7) ∧ (0 ≤ w ∧ w ≤ 2)) from fun q => b q.1.2.1)]
          rfl
      · rw [if_pos ((gbD s).mpr a), if_neg (show ¬ (((0 ≤ x ∧ x < 3) ∧ (0 ≤ z ∧ z ≤ 8) ∧ f 2 = 7) ∧ (0 ≤ w ∧ w ≤ 2)) from fun q => a (by have := q.1.1; omega))]
        rfl
    · rw [if_pos ((gbD s).mpr h7), if_neg (show ¬ (((0 ≤ x ∧ x < 3) ∧ (0 ≤ z ∧ z ≤ 8) ∧ f 2 = 7) ∧ (0 ≤ w ∧ w ≤ 2)) from fun q => h7 q.1.2.2)]
      rfl
  by_cases ok : ((0 ≤ x ∧ x < 3) ∧ (0 ≤ z ∧ z ≤ 8) ∧ f 2 = 7) ∧ (0 ≤ w ∧ w ≤ 2)
  · obtain ⟨⟨a, b, h7⟩, d⟩ := id ok
    obtain ⟨g, rfl⟩ : ∃ g : Nat, x = g := ⟨x.toNat, by omega⟩
    obtain ⟨z, rfl⟩ : ∃ z' : Nat, z = z' := ⟨z.toNat, by omega⟩
    have hg : g < 3 := by omega
    obtain ⟨D, u, u1, u2, u3, u4, u5, u6⟩ := CV_ready (w := 2) (by omega) v.1 h7 hg c
    have u1 : gm_19 (71 + 48 * g) 2 s = some u := u1
    have tm := (u4.2.2.2.2.1 u5).2.1
    have kc : KC s u := KG_KC (ga_of hg) u3
    have ru := RV_KC kc r
    have eu : u.1 216 = f := ru.1
    obtain ⟨p1, p2⟩ := PA_mv v.1 h7 hg
    have ht := (ga_of hg).2.2.2.1
    have vr : ∀ x, x < 8 → 0 ≤ vt (PMV f R C g) x ∧ vt (PMV f R C g) x ≤ 864 := fun x hx => vt_r p1 p2 hx
    have e2 : ∀ x, x < 8 → u.1 (71 + 48 * g + 3 + 2) x = vt (PMV f R C g) x := fun x hx => (tm x hx).2.1
    have e7 : ∀ x y, x < 8 → y < 9 → u.1 (71 + 48 * g + 3 + 7) (9 * x + y) = rsv (LV f R C g) (PMV f R C g) x y := fun x y hx hy => ((tm x hx).2.2 y hy).2.2.1
    have e6 : ∀ x y, x < 8 → y < 9 → u.1 (71 + 48 * g + 3 + 6) (9 * x + y) = flv (LV f R C g) (PMV f R C g) x y := fun x y hx hy => ((tm x hx).2.2 y hy).2.1
    have ek : cm (u.1 (71 + 48 * g + 3 + 2)) 8 = cm (vt (PMV f R C g)) 8 := cm_c fun k hk => e2 k hk
    obtain ⟨K, hK⟩ : ∃ K, K = cm (vt (PMV f R C g)) 8 := ⟨_, rfl⟩
    have K0 : 0 < K := by rw [hK]; exact cm_pos _ 8
    have KB : K ≤ 20000000000000000 := by rw [hK]; exact cm_B (fun k hk => (vr k hk).1) p2 (by omega)
    have dv : ∀ x, x < 8 → 0 < vt (PMV f R C g) x → (vt (PMV f R C g) x).toNat ∣ K := fun x hx hp => by rw [hK]; exact cm_dvd hx hp
    have c78 := sp_78 (t := 71 + 48 * g + 3) (s := u) ht (fun k hk => by rw [e2 k hk]; have := vr k hk; omega) (by rw [sg_eq (g := vt (PMV f R C g)) e2]; exact p2)
    rw [ek, ← hK] at c78
    have c79 := sp_79 (t := 71 + 48 * g + 3) (c := z) (s := u) (K := (K : Int)) ht (by omega) (fun k hk => by rw [e2 k hk]; have := vr k hk; omega) (fun k hk => by
      have := e7 (k / 9) (k % 9) (by omega) (by omega)
      rw [show 9 * (k / 9) + k % 9 = k by omega] at this
      rw [this]
      have q := rsv_r p1 (show k / 9 < 8 by omega) (show k % 9 < 9 by omega)
      have q2 := vr (k / 9) (by omega)
      unfold i32
      by_cases y : 0 < vt (PMV f R C g) (k / 9)
      · have := q.2 y
        omega
      · have : rsv (LV f R C g) (PMV f R C g) (k / 9) (k % 9) = 0 := if_pos (show vt (PMV f R C g) (k / 9) ≤ 0 by omega)
        omega) (by omega)
    have ero : ro u (71 + 48 * g + 3) z K = sg (Tx (LV f R C g) (PMV f R C g) z K) 8 := sg_eq fun k hk => by
      rw [e2 k hk, e7 k z hk (by omega)]
      rfl
    rw [ero] at c79
    have c77 := sp_77 (t := 71 + 48 * g + 3) (c := z) (s := u) ht (by omega)
    rw [sg_eq (g := fun x => flv (LV f R C g) (PMV f R C g) x z) fun k hk => e6 k z hk (by omega)] at c77
    obtain ⟨S, hS⟩ : ∃ S, S = sg (Tx (LV f R C g) (PMV f R C g) z K) 8 := ⟨_, rfl⟩
    have Sr : 0 ≤ S ∧ S ≤ 8 * K := by
      rw [hS]
      refine ⟨sg_nn fun x hx => (Tx_r p1 (by omega) dv hx).1, ?_⟩
      have := sg_le (f := Tx (LV f R C g) (PMV f R C g) z K) (g := fun _ => (K : Int) * 1) (n := 8) fun x hx => by
        show _ ≤ (K : Int) * 1
        rw [Int.mul_one]
        exact (Tx_r p1 (by omega) dv hx).2
      rw [sg_mul, sg_one] at this
      omega
    rw [← hS] at c79
    obtain ⟨F, hF⟩ : ∃ F, F = sg (fun x => flv (LV f R C g) (PMV f R C g) x z) 8 := ⟨_, rfl⟩
    rw [← hF] at c77
    have Fr : -2147483648 ≤ F ∧ F ≤ 2147483647 := by
      have b : ∀ x, x < 8 → 0 ≤ flv (LV f R C g) (PMV f R C g) x z ∧ flv (LV f R C g) (PMV f R C g) x z ≤ 100000000 := fun x hx => by
        have q1 := p1.1 x hx
        have q2 := p1.2.1 x z hx (by omega)
        unfold flv
        by_cases y : sg (fun y => PMV f R C g x y) 9 ≤ 0
        · rw [if_pos y]
          omega
        · rw [if_neg y]
          have q3 : PMV f R C g x z ≤ sg (fun y => PMV f R C g x y) 9 := sg_at (f := fun y => PMV f R C g x y) (n := 9) (fun y hy => (p1.2.1 x y hx hy).1) z (by omega)
          refine ⟨Int.ediv_nonneg (Int.mul_nonneg q1.1 q2.1) (by omega), ?_⟩
          have m := Int.ediv_le_ediv (show 0 < sg (fun y => PMV f R C g x y) 9 by omega) (Int.mul_le_mul_of_nonneg_left q3 q1.1)
          rw [Int.mul_ediv_cancel _ (by omega)] at m
          omega
      have l := sg_le (f := fun x => flv (LV f R C g) (PMV f R C g) x z) (g := fun _ => 100000000 * 1) (n := 8) fun x hx => by
        show _ ≤ (100000000 : Int) * 1
        have := (b x hx).2
        omega
      have l0 := sg_nn (f := fun x => flv (LV f R C g) (PMV f R C g) x z) (n := 8) fun x hx => (b x hx).1
      rw [sg_mul, sg_one] at l
      omega
    have m0 := Int.emod_nonneg S (show (K : Int) ≠ 0 by omega)
    have m1 := Int.emod_lt_of_pos S (show (0 : Int) < K by omega)
    obtain ⟨A, hA⟩ : ∃ A : Nat, S % (K : Int) = A := ⟨_, (Int.toNat_of_nonneg m0).symm⟩
    have s1 : gm_100 g z w s = some (if ¬ w = 0 then (if ¬ w - 1 = 0 then (K : Int) else S % K) / ((Nat.gcd (S % K).toNat K : Nat) : Int) else F + S / K, u) := by
      unfold gm_100
      rw [c118, Option.bind_some, if_neg (fun q => (gbD s).mp q ⟨a, b, h7⟩), if_pos hw', if_neg (by omega), if_pos d.2, if_pos a, Option.bind_some, vg_ g hg]
      show ((gm_19 (71 + 48 * g) 2 s).bind _) = _
      rw [u1, Option.bind_some, c78, Option.bind_some]
      show (if (-9223372036854775808 ≤ (K : Int) ∧ (K : Int) ≤ 9223372036854775807) then (if 0 < (K : Int) then ((gm_79 (71 + 48 * g + 3) z K u).bind fun q46 => if ¬ w = 0 then (if 0 ≤ q46.1 ∧ q46.1 ≤ 9223372036854775807 ∧ 0 < (K : Int) ∧ (K : Int) ≤ 9223372036854775807 then ((gm_127 (q46.1 % K) K (w - 1) q46.2).bind fun q51 => some (q51.1, q51.2)) else none) else ((gm_77 (71 + 48 * g + 3) z q46.2).bind fun q53 => if (-2147483648 ≤ q53.1 ∧ q53.1 ≤ 2147483647) then (if 0 ≤ q46.1 ∧ q46.1 ≤ 9223372036854775807 ∧ 0 < (K : Int) ∧ (K : Int) ≤ 9223372036854775807 then some ((q53.1 + (q46.1 / K)), q53.2) else none) else none)) else some ((-1), u)) else none) = _
      rw [if_pos (by omega), if_pos (by omega), c79, Option.bind_some]
      by_cases t : ¬ w = 0
      · rw [if_pos t, if_pos t, if_pos (show 0 ≤ S ∧ S ≤ 9223372036854775807 ∧ 0 < (K : Int) ∧ (K : Int) ≤ 9223372036854775807 by omega)]
        show ((gm_127 (S % K) K (w - 1) u).bind fun q51 => some (q51.1, q51.2)) = _
        rw [hA, sp_127f u (by omega) KB (show i32 (w - 1) by unfold i32; omega), Option.bind_some]
        rfl
      · rw [if_neg t, if_neg t]
        show ((gm_77 (71 + 48 * g + 3) z u).bind fun q53 => if (-2147483648 ≤ q53.1 ∧ q53.1 ≤ 2147483647) then (if 0 ≤ S ∧ S ≤ 9223372036854775807 ∧ 0 < (K : Int) ∧ (K : Int) ≤ 9223372036854775807 then some ((q53.1 + (S / K)), q53.2) else none) else none) = _
        rw [c77, Option.bind_some]
        show (if (-2147483648 ≤ F ∧ F ≤ 2147483647) then (if 0 ≤ S ∧ S ≤ 9223372036854775807 ∧ 0 < (K : Int) ∧ (K : Int) ≤ 9223372036854775807 then some ((F + (S / K)), u) else none) else none) = _
        rw [if_pos Fr, if_pos (by omega)]
    obtain ⟨p, q1, q2, q3, q4, q5⟩ := sp_181 (s := u) (R := R) (C := C) (g := g) (by rw [eu]; exact v.1) (by rw [eu]; exact h7) hg
    rw [eu] at q5
    obtain ⟨y, hy⟩ : ∃ y, y = gw2 (gw2 p 215 29 0) 215 30 1 := ⟨_, rfl⟩
    have y1 : ∀ k i, y.1 k i = p.1 k i := fun k i => by rw [hy]; rfl
    have y2 : ∀ k i, k ≠ 215 → y.2 k i = p.2 k i := fun k i q => by rw [hy, gw2_2, if_neg (by omega), gw2_2, if_neg (by omega)]
    have pS := q2.2.2 ru.2.2.2.2
    have yS : SC y := ⟨fun i hi => by rw [y1, y1, y1, y2 _ _ (by decide)]; exact pS.1 i hi, fun e he => by rw [y1, y2 _ _ (by decide), y2 _ _ (by decide), y2 _ _ (by decide), y2 _ _ (by decide)]; exact pS.2.1 e he, fun k hk => by rw [y2 _ _ (by decide)]; exact pS.2.2 k hk⟩
    have yK : KRw u y := KRw_tr (KR_w q2) ⟨fun k i _ => y1 k i, fun k i q => y2 k i (by omega), fun _ => yS⟩
    obtain ⟨o, o1, o2⟩ := sl_196 (z := z) (w := w) p1 p2 (by omega) hK d 100000 0 y (by omega) (by omega) (by rw [y1]; exact q4) (fun x hx => ⟨by rw [y2 _ _ (by decide)]; exact (q5 x hx).1, fun t ht => by rw [y1]; exact (q5 x hx).2 t ht⟩) (by rw [hy, gw2_2, if_pos ⟨rfl, rfl⟩]; rfl) (by rw [hy, gw2_2, if_neg (by omega), gw2_2, if_pos ⟨rfl, rfl⟩, Int.zero_mul]; rfl) yS
    have o1 : gm_196_63 100000 z w 0 0 y = _ := o1
    have s2 := s2 u eu
    rw [if_pos ok, q1, Option.bind_some, ← hy, o1, ← hS, ← hF] at s2
    exact ⟨_, u, o, s1, s2, q_inv kc u2 r v (KRw_tr yK o2)⟩
  · refine ⟨-1, s, s, ?_, (s2 s r.1).trans (if_neg ok), h⟩
    unfold gm_100
    rw [c118, Option.bind_some]
    by_cases a : (0 ≤ x ∧ x < 3) ∧ (0 ≤ z ∧ z ≤ 8) ∧ f 2 = 7
    · rw [if_neg (fun q => (gbD s).mp q a), if_pos hw']
      by_cases d : w < 0
      · rw [if_pos d]
        rfl
      · rw [if_neg d, if_neg (fun q => ok ⟨a, by omega, q⟩)]
        rfl
    · rw [if_pos ((gbD s).mpr a)]
      rfl
end
section
/-! QUERIES: apart: sets of zones -/
theorem bs_9 : ∀ v : Nat, v < 512 → ∀ c : Nat, c < 9 → 0 ≤ bset v c ∧ bset v c < 512 := by decide +kernel
theorem or_0 : ∀ v : Nat, v < 512 → (Int32.ofInt (v : Nat) ||| Int32.ofInt 0).toInt = (v : Nat) := by decide +kernel
def z0_ : gx_S := (fun _ _ => 0, fun _ _ => 0)
def bc_ (v : Int) : Int := match gm_230 v z0_ with
  | some q => q.1
  | none => 0
def nz_ (v : Int) : Int := match gm_229 v z0_ with
  | some q => q.1
  | none => 0
theorem sp_230 (v : Int) (s : gx_S) : gm_230 v s = some (bc_ v, s) := rfl
def b8_ (v : Int) : Int := ((Int32.ofInt (((Int32.ofInt v >>> (Int32.ofInt 8 &&& 31))).toInt) &&& Int32.ofInt 1)).toInt
theorem bc_r : ∀ v : Nat, v < 512 → 0 ≤ bc_ v ∧ bc_ v ≤ 9 := by decide +kernel
theorem b8_r : ∀ v : Nat, v < 512 → b8_ v = 0 ∨ b8_ v = 1 := by decide +kernel
theorem bc_1 : ∀ v : Nat, v < 512 → bc_ v = 1 → b8_ v = 0 → ∃ o, o < 8 ∧ v = 2 ^ o := by decide +kernel
theorem bc_2 : ∀ o : Nat, o < 8 → bc_ ((2 ^ o : Nat) : Int) = 1 ∧ b8_ ((2 ^ o : Nat) : Int) = 0 ∧ ((Int32.ofInt 1 <<< (Int32.ofInt (o : Nat) &&& 31))).toInt = ((2 ^ o : Nat) : Int) := by decide +kernel
end
section
/-! QUERIES: apart: the zones met -/
def st_ (s : gx_S) (q : Int × gx_S) : Int × gx_S := (q.1, s)
theorem nz_62 (a b : Int) (s : gx_S) : gm_229_62 a b s = (gm_229_62 a b z0_).map (st_ s) := by
  unfold gm_229_62
  by_cases h1 : -2147483648 ≤ a ∧ a ≤ 2147483647
  · rw [if_pos h1, if_pos h1]
    by_cases h2 : a ≤ 4
    · rw [if_pos h2, if_pos h2]
      rfl
    · rw [if_neg h2, if_neg h2]
      rfl
  · rw [if_neg h1, if_neg h1]
    rfl
theorem nz_49 (a b : Int) (s : gx_S) : gm_229_49 a b s = (gm_229_49 a b z0_).map (st_ s) := by
  unfold gm_229_49
  by_cases h1 : -2147483648 ≤ a ∧ a ≤ 2147483647
  · rw [if_pos h1, if_pos h1]
    by_cases h2 : a ≤ 16
    · rw [if_pos h2, if_pos h2]
      exact nz_62 _ _ s
    · rw [if_neg h2, if_neg h2]
      exact nz_62 _ _ s
  · rw [if_neg h1, if_neg h1]
    rfl
theorem nz_34 (a b : Int) (s : gx_S) : gm_229_34 a b s = (gm_229_34 a b z0_).map (st_ s) := by
  unfold gm_229_34
  by_cases h1 : -2147483648 ≤ a ∧ a ≤ 2147483647
  · rw [if_pos h1, if_pos h1]
    by_cases h2 : a ≤ 256
    · rw [if_pos h2, if_pos h2]
      exact nz_49 _ _ s
    · rw [if_neg h2, if_neg h2]
      exact nz_49 _ _ s
  · rw [if_neg h1, if_neg h1]
    rfl
theorem nz_s (v : Int) (s : gx_S) : gm_229 v s = (gm_229 v z0_).map (st_ s) := by
  unfold gm_229
  by_cases h1 : -2147483648 ≤ ((Int32.ofInt (((Int32.ofInt v ^^^ Int32.ofInt (-1))).toInt) &&& Int32.ofInt (v - 1))).toInt ∧ ((Int32.ofInt (((Int32.ofInt v ^^^ Int32.ofInt (-1))).toInt) &&& Int32.ofInt (v - 1))).toInt ≤ 2147483647
  · rw [if_pos h1, if_pos h1]
    by_cases h2 : 0 < ((Int32.ofInt (((Int32.ofInt v ^^^ Int32.ofInt (-1))).toInt) &&& Int32.ofInt (v - 1))).toInt
    · rw [if_pos h2, if_pos h2]
      by_cases h3 : ((Int32.ofInt (((Int32.ofInt v ^^^ Int32.ofInt (-1))).toInt) &&& Int32.ofInt (v - 1))).toInt ≤ 65536
      · rw [if_pos h3, if_pos h3]
        exact nz_34 _ _ s
      · rw [if_neg h3, if_neg h3]
        exact nz_34 _ _ s
    · rw [if_neg h2, if_neg h2]
      rfl
  · rw [if_neg h1, if_neg h1]
    rfl
theorem nz_2 : ∀ o : Nat, o < 8 → (gm_229 ((2 ^ o : Nat) : Int) z0_).map (fun q => q.1) = some (o : Int) := by decide +kernel
theorem sp_229 {o : Nat} (h : o < 8) (s : gx_S) : gm_229 ((2 ^ o : Nat) : Int) s = some ((o : Int), s) := by
  have a := nz_2 o h
  rw [nz_s]
  cases e : gm_229 ((2 ^ o : Nat) : Int) z0_ with
  | none =>
    rw [e] at a
    exact absurd a (by intro h; cases h)
  | some q =>
    rw [e] at a
    have a : some q.1 = some (o : Int) := a
    show some (q.1, s) = _
    rw [Option.some.inj a]
/-- the new zones met by zone x in the first k cells, as bits -/
def mbs (f : Nat → Int) (C : Nat) (x : Int) : Nat → Int
  | 0 => 0
  | k + 1 => if f (52 + 96 * 0 + 12 * (k / C) + k % C) = x then bset (mbs f C x k) (f (52 + 96 * 1 + 12 * (k / C) + k % C)) else mbs f C x k
/-- OLD and NEW are told -/
abbrev TT (f : Nat → Int) : Prop := f 2 / 2 ^ 0 % 2 = 1 ∧ f 2 / 2 ^ 1 % 2 = 1
theorem old_r {f : Nat → Int} {R C k : Nat} (M : MP f R C) (T : TT f) (hk : k < R * C) : (0 ≤ f (52 + 96 * 0 + 12 * (k / C) + k % C) ∧ f (52 + 96 * 0 + 12 * (k / C) + k % C) ≤ 8) ∧ 0 ≤ f (52 + 96 * 1 + 12 * (k / C) + k % C) ∧ f (52 + 96 * 1 + 12 * (k / C) + k % C) ≤ 8 := by
  have a := M.2.2.2.2.2.2.2.1 0 (by omega) T.1 k hk
  have b := M.2.2.2.2.2.2.2.1 1 (by omega) T.2 k hk
  rw [if_neg (by omega)] at a b
  exact ⟨a, b⟩
theorem mbs_r {f : Nat → Int} {R C : Nat} {x : Int} (M : MP f R C) (T : TT f) : ∀ k, k ≤ R * C → 0 ≤ mbs f C x k ∧ mbs f C x k < 512 := by
  intro k
  induction k with
  | zero => intro _; exact (show (0 : Int) ≤ 0 ∧ (0 : Int) < 512 by decide)
  | succ k ih =>
    intro hk
    obtain ⟨i1, i2⟩ := ih (by omega)
    obtain ⟨_, n1, n2⟩ := old_r M T (show k < R * C by omega)
    have e : mbs f C x (k + 1) = if f (52 + 96 * 0 + 12 * (k / C) + k % C) = x then bset (mbs f C x k) (f (52 + 96 * 1 + 12 * (k / C) + k % C)) else mbs f C x k := rfl
    rw [e]
    split
    · have b := bs_9 (mbs f C x k).toNat (by omega) (f (52 + 96 * 1 + 12 * (k / C) + k % C)).toNat (by omega)
      rw [Int.toNat_of_nonneg i1, Int.toNat_of_nonneg n1] at b
      exact b
    · exact ⟨i1, i2⟩
theorem sp_60h {s : gx_S} {f : Nat → Int} {R C k : Nat} (m : MR s 1 f R C) (M : MP f R C) (T : TT f) (hk : k < R * C) : gm_60 1 0 k s = some (f (52 + 96 * 0 + 12 * (k / C) + k % C), s) ∧ gm_60 1 1 k s = some (f (52 + 96 * 1 + 12 * (k / C) + k % C), s) := by
  have hRC := RC_96 M.1.2.2.1 M.1.2.2.2
  have m9 := m.2.2.2.2.2.2.2.2
  refine ⟨?_, ?_⟩
  · have c : gm_60 1 0 k s = _ := sp_60 (s := s) (a := 1) (by decide +kernel) 0 k (by omega) (by omega)
    rw [c, m9 0 (by omega) T.1 k hk]
  · have c : gm_60 1 1 k s = _ := sp_60 (s := s) (a := 1) (by decide +kernel) 1 k (by omega) (by omega)
    rw [c, m9 1 (by omega) T.2 k hk]
theorem sl_65 {s : gx_S} {f : Nat → Int} {R C : Nat} {x : Int} (m : MR s 1 f R C) (M : MP f R C) (T : TT f) (hx : i32 x) : ∀ (n k : Nat), R * C < n + k → k ≤ R * C → gm_65_10 n 1 x ((R * C : Nat) : Int) (mbs f C x k) k s = some (mbs f C x (R * C), s) := by
  have hRC := RC_96 M.1.2.2.1 M.1.2.2.2
  unfold i32 at hx
  intro n
  induction n with
  | zero => intro k h; omega
  | succ n ih =>
    intro k h hk
    rw [gm_65_10, if_pos (by omega), if_pos (by omega)]
    by_cases q : k = R * C
    · rw [if_pos (by omega), ← q]
    · obtain ⟨c0, c1⟩ := sp_60h m M T (show k < R * C by omega)
      obtain ⟨⟨o1, o2⟩, n1, n2⟩ := old_r M T (show k < R * C by omega)
      have ce : ((k : Int) + 1) = ((k + 1 : Nat) : Int) := rfl
      have e : mbs f C x (k + 1) = if f (52 + 96 * 0 + 12 * (k / C) + k % C) = x then bset (mbs f C x k) (f (52 + 96 * 1 + 12 * (k / C) + k % C)) else mbs f C x k := rfl
      rw [if_neg (by omega), c0, Option.bind_some, if_pos (by omega), if_pos hx]
      by_cases z : f (52 + 96 * 0 + 12 * (k / C) + k % C) = x
      · rw [if_pos z] at e
        rw [if_neg (fun t => t z)]
        show ((gm_60 1 1 k s).bind _) = _
        rw [c1, Option.bind_some]
        unfold gm_65_39
        show gm_65_10 n 1 x ((R * C : Nat) : Int) (bset (mbs f C x k) (f (52 + 96 * 1 + 12 * (k / C) + k % C))) ((k : Int) + 1) s = _
        rw [← e, ce]
        exact ih (k + 1) (by omega) (by omega)
      · rw [if_neg z] at e
        rw [if_pos z]
        unfold gm_65_39
        rw [← e, ce]
        exact ih (k + 1) (by omega) (by omega)
theorem sp_65 {s : gx_S} {f : Nat → Int} {R C : Nat} {x : Int} (m : MR s 1 f R C) (M : MP f R C) (T : TT f) (hx : i32 x) : gm_65 1 x s = some (mbs f C x (R * C), s) := by
  have hRC := RC_96 M.1.2.2.1 M.1.2.2.2
  unfold gm_65
  rw [if_pos (by decide +kernel), sp_58 (MR_cz m M), Option.bind_some]
  exact sl_65 m M T hx 100000 0 (by omega) (by omega)
theorem sl_221 {s : gx_S} {f : Nat → Int} {R C : Nat} {x : Int} (ef : s.1 216 = f) (M : MP f R C) (T : TT f) (hx : i32 x) : ∀ (n k : Nat), R * C < n + k → k ≤ R * C → gm_221_4 n x (mbs f C x k) k s = some (mbs f C x (R * C), s) := by
  have hRC := RC_96 M.1.2.2.1 M.1.2.2.2
  have hz : mz s R C := by
    unfold mz
    rw [ef]
    exact M.1
  have ec : s.1 216 0 * s.1 216 1 = ((R * C : Nat) : Int) := by rw [hz.1, hz.2.1, Int.natCast_mul]
  unfold i32 at hx
  intro n
  induction n with
  | zero => intro k h; omega
  | succ n ih =>
    intro k h hk
    rw [gm_221_4, sp_151, Option.bind_some, ec, if_pos (by omega), if_pos (by omega)]
    by_cases q : k = R * C
    · rw [if_pos (by omega), ← q]
    · have c0 := sp_152 hz 0 k (by omega) (by omega)
      have c1 := sp_152 hz 1 k (by omega) (by omega)
      have e0 : cdx s C 0 k = f (52 + 96 * 0 + 12 * (k / C) + k % C) := by rw [← ef]; rfl
      have e1 : cdx s C 1 k = f (52 + 96 * 1 + 12 * (k / C) + k % C) := by rw [← ef]; rfl
      rw [e0] at c0
      rw [e1] at c1
      have c0 : gm_152 0 k s = _ := c0
      have c1 : gm_152 1 k s = _ := c1
      obtain ⟨⟨o1, o2⟩, n1, n2⟩ := old_r M T (show k < R * C by omega)
      obtain ⟨b1, b2⟩ := mbs_r (x := x) M T k hk
      have ce : ((k : Int) + 1) = ((k + 1 : Nat) : Int) := rfl
      have e : mbs f C x (k + 1) = if f (52 + 96 * 0 + 12 * (k / C) + k % C) = x then bset (mbs f C x k) (f (52 + 96 * 1 + 12 * (k / C) + k % C)) else mbs f C x k := rfl
      rw [if_neg (by omega)]
      show ((gm_152 0 k s).bind _) = _
      rw [c0, Option.bind_some, if_pos (by omega), if_pos hx]
      by_cases z : f (52 + 96 * 0 + 12 * (k / C) + k % C) = x
      · rw [if_pos z] at e
        rw [if_neg (fun t => t z)]
        show ((gm_152 1 k s).bind _) = _
        rw [c1, Option.bind_some]
        unfold gm_221_35
        show gm_221_4 n x (bset (mbs f C x k) (f (52 + 96 * 1 + 12 * (k / C) + k % C))) ((k : Int) + 1) s = _
        rw [← e, ce]
        exact ih (k + 1) (by omega) (by omega)
      · rw [if_neg z] at e
        rw [if_pos z]
        unfold gm_221_35
        have o := or_0 (mbs f C x k).toNat (by omega)
        rw [Int.toNat_of_nonneg b1] at o
        rw [o, ← e, ce]
        exact ih (k + 1) (by omega) (by omega)
theorem sp_221 {s : gx_S} {f : Nat → Int} {R C : Nat} {x : Int} (ef : s.1 216 = f) (M : MP f R C) (T : TT f) (hx : i32 x) : gm_221 x s = some (mbs f C x (R * C), s) := by
  have hRC := RC_96 M.1.2.2.1 M.1.2.2.2
  exact sl_221 ef M T hx 100000 0 (by omega) (by omega)
end
section
/-! QUERIES: apart: one zone -/
theorem sl_202 {s : gx_S} {f : Nat → Int} {R C : Nat} {z : Int} (ef : s.1 216 = f) (M : MP f R C) (T : TT f) (hz : i32 z) : ∀ (n k : Nat), R * C < n + k → k ≤ R * C → gm_202_4 n z (sg (fun k => bi (f (52 + 96 * 1 + 12 * (k / C) + k % C) = z)) k) k s = some (NC f R C 1 z, s) := by
  have hRC := RC_96 M.1.2.2.1 M.1.2.2.2
  have hm : mz s R C := by
    unfold mz
    rw [ef]
    exact M.1
  have ec : s.1 216 0 * s.1 216 1 = ((R * C : Nat) : Int) := by rw [hm.1, hm.2.1, Int.natCast_mul]
  unfold i32 at hz
  intro n
  induction n with
  | zero => intro k h; omega
  | succ n ih =>
    intro k h hk
    rw [gm_202_4, sp_151, Option.bind_some, ec, if_pos (by omega), if_pos (by omega)]
    by_cases q : k = R * C
    · rw [if_pos (by omega), q]
      unfold NC
      rw [if_pos T.2]
    · have c1 := sp_152 hm 1 k (by omega) (by omega)
      have e1 : cdx s C 1 k = f (52 + 96 * 1 + 12 * (k / C) + k % C) := by rw [← ef]; rfl
      rw [e1] at c1
      have c1 : gm_152 1 k s = _ := c1
      obtain ⟨_, n1, n2⟩ := old_r M T (show k < R * C by omega)
      have ce : ((k : Int) + 1) = ((k + 1 : Nat) : Int) := rfl
      rw [if_neg (by omega)]
      show ((gm_152 1 k s).bind _) = _
      rw [c1, Option.bind_some, if_pos (by omega), if_pos hz]
      unfold gm_202_28
      by_cases y : f (52 + 96 * 1 + 12 * (k / C) + k % C) = z
      · have b : bi (f (52 + 96 * 1 + 12 * (k / C) + k % C) = z) = 1 := if_pos y
        have st : sg (fun k => bi (f (52 + 96 * 1 + 12 * (k / C) + k % C) = z)) (k + 1) = sg (fun k => bi (f (52 + 96 * 1 + 12 * (k / C) + k % C) = z)) k + 1 := by
          show _ + bi (f (52 + 96 * 1 + 12 * (k / C) + k % C) = z) = _
          rw [b]
        rw [if_neg (fun t => t y), sp_131 (.inr rfl), Option.bind_some, ← st, ce]
        exact ih (k + 1) (by omega) (by omega)
      · have b : bi (f (52 + 96 * 1 + 12 * (k / C) + k % C) = z) = 0 := if_neg y
        have st : sg (fun k => bi (f (52 + 96 * 1 + 12 * (k / C) + k % C) = z)) (k + 1) = sg (fun k => bi (f (52 + 96 * 1 + 12 * (k / C) + k % C) = z)) k + 0 := by
          show _ + bi (f (52 + 96 * 1 + 12 * (k / C) + k % C) = z) = _
          rw [b]
        rw [if_pos y, sp_131 (.inl rfl), Option.bind_some, ← st, ce]
        exact ih (k + 1) (by omega) (by omega)
theorem sp_202 {s : gx_S} {f : Nat → Int} {R C : Nat} {z : Int} (ef : s.1 216 = f) (M : MP f R C) (T : TT f) (hz : i32 z) : gm_202 z s = some (NC f R C 1 z, s) := by
  have hRC := RC_96 M.1.2.2.1 M.1.2.2.2
  exact sl_202 ef M T hz 100000 0 (by omega) (by omega)
theorem sl_125 {s : gx_S} {f : Nat → Int} {R C x : Nat} {v : Int} (m : MR s 1 f R C) (M : MP f R C) (hx : x < 8) (hv : 0 ≤ v ∧ v < 512) : ∀ (n o : Nat), 8 < n + o → o ≤ 8 → (∀ o0, o ≤ o0 → o0 < 8 → v = ((2 ^ o0 : Nat) : Int) → gm_125_52 n x v o s = some (decide (NC f R C 1 o0 = NC f R C 0 x), s)) ∧ ((∀ o0, o ≤ o0 → o0 < 8 → ¬ v = ((2 ^ o0 : Nat) : Int)) → gm_125_52 n x v o s = some (false, s)) := by
  have hRC := RC_96 M.1.2.2.1 M.1.2.2.2
  intro n
  induction n with
  | zero => intro o h; omega
  | succ n ih =>
    intro o h ho
    by_cases q : o = 8
    · refine ⟨fun o0 h1 h2 => by omega, fun _ => ?_⟩
      rw [gm_125_52, if_pos (by omega), if_pos (by omega)]
    · obtain ⟨b1, b2, b3⟩ := bc_2 o (by omega)
      have p8 : 2 ^ o ≤ 2 ^ 8 := Nat.pow_le_pow_right (by omega) (by omega)
      have p8 : 2 ^ o ≤ 256 := p8
      have ce : ((o : Int) + 1) = ((o + 1 : Nat) : Int) := rfl
      have st : gm_125_52 (n + 1) x v o s = if ¬ v = ((2 ^ o : Nat) : Int) then gm_125_52 n x v ((o + 1 : Nat) : Int) s else some (decide (NC f R C 1 o = NC f R C 0 x), s) := by
        have n1 := NC_nn f R C 1 o
        have n0 := NC_nn f R C 0 x
        rw [← Int.natCast_mul] at n1 n0
        have c1 : gm_62 1 1 o s = _ := sp_62g m M 1 o (by omega) (by omega)
        have c0 : gm_62 1 0 x s = _ := sp_62g m M 0 x (by omega) (by omega)
        rw [gm_125_52, if_pos (by omega), if_neg (by omega), if_pos (by omega), b3, if_pos (show -2147483648 ≤ ((2 ^ o : Nat) : Int) ∧ ((2 ^ o : Nat) : Int) ≤ 2147483647 from ⟨Int.le_trans (by decide) (Int.natCast_nonneg _), Int.le_trans (Int.ofNat_le.mpr p8) (by decide)⟩), ce]
        by_cases z : v = ((2 ^ o : Nat) : Int)
        · rw [if_neg (fun t => t z), if_neg (fun t => t z), c1, Option.bind_some]
          show ((gm_62 1 0 x s).bind _) = _
          rw [c0, Option.bind_some]
          show (if (-2147483648 ≤ NC f R C 1 o ∧ NC f R C 1 o ≤ 2147483647) then (if (-2147483648 ≤ NC f R C 0 x ∧ NC f R C 0 x ≤ 2147483647) then (if ¬ NC f R C 1 o = NC f R C 0 x then some (false, s) else some (true, s)) else none) else none) = _
          rw [if_pos (by omega), if_pos (by omega)]
          by_cases y : NC f R C 1 o = NC f R C 0 x
          · rw [if_neg (fun t => t y), decide_eq_true y]
          · rw [if_pos y, decide_eq_false y]
        · rw [if_pos z, if_pos z]
      obtain ⟨i1, i2⟩ := ih (o + 1) (by omega) (by omega)
      refine ⟨fun o0 h1 h2 h3 => ?_, fun h3 => ?_⟩
      · rw [st]
        by_cases e : o0 = o
        · rw [if_neg (fun t => t (by rw [h3, e])), e]
        · have ne : ¬ v = ((2 ^ o : Nat) : Int) := fun t => by
            have l : 2 ^ o < 2 ^ o0 := Nat.pow_lt_pow_right (by omega) (by omega)
            omega
          rw [if_pos ne]
          exact i1 o0 (by omega) h2 h3
      · rw [st, if_pos (h3 o (Nat.le_refl o) (by omega))]
        exact i2 fun o0 h1 h2 => h3 o0 (by omega) h2
theorem la_ {s : gx_S} {f : Nat → Int} {R C x : Nat} {w : Int} (m : MR s 1 f R C) (M : MP f R C) (T : TT f) (hx : x < 8) (hw : w = 1 ∨ w = 2 ∨ w = 3) : ∃ v : Bool, gm_125 x w s = some (v, s) ∧ ∀ t : gx_S, t.1 216 = f → gm_222 x w t = some (v, t) := by
  have hRC := RC_96 M.1.2.2.1 M.1.2.2.2
  have hxi : i32 (x : Int) := by unfold i32; omega
  have c65 := sp_65 m M T hxi
  obtain ⟨m1, m2⟩ := mbs_r (x := (x : Int)) M T (R * C) (Nat.le_refl _)
  obtain ⟨V, hV⟩ : ∃ V : Nat, mbs f C x (R * C) = V := ⟨_, (Int.toNat_of_nonneg m1).symm⟩
  have c221 : ∀ t : gx_S, t.1 216 = f → gm_221 x t = some ((V : Int), t) := fun t et => by rw [← hV]; exact sp_221 et M T hxi
  rw [hV] at c65 m1 m2
  have br := bc_r V (by omega)
  have b8 := b8_r V (by omega)
  have e8 : ((Int32.ofInt (((Int32.ofInt (V : Int) >>> (Int32.ofInt 8 &&& 31))).toInt) &&& Int32.ofInt 1)).toInt = b8_ V := rfl
  unfold gm_125
  rw [c65, Option.bind_some, if_pos (by omega)]
  rcases hw with e | e | e
  · rw [e]
    -- whole zones
    rw [if_pos (show ¬ (1 : Int) = 3 by decide), if_pos (show ¬ (1 : Int) = 2 by decide)]
    obtain ⟨l1, l2⟩ := sl_125 (v := (V : Int)) m M hx (by omega) 100000 0 (by omega) (by omega)
    have r1 : ∀ t : gx_S, t.1 216 = f → gm_222 x 1 t = if ¬ bc_ V = 1 then some (false, t) else (if ¬ b8_ V = 0 then some (false, t) else ((gm_229 V t).bind fun q45 => (gm_202 q45.1 q45.2).bind fun q47 => (gm_158 x q47.2).bind fun q49 => if (-2147483648 ≤ q47.1 ∧ q47.1 ≤ 2147483647) then (if (-2147483648 ≤ q49.1 ∧ q49.1 ≤ 2147483647) then (if ¬ q47.1 = q49.1 then some (false, q49.2) else some (true, q49.2)) else none) else none)) := fun t et => by
      unfold gm_222
      rw [c221 t et, Option.bind_some, if_pos (show (-2147483648 : Int) ≤ 1 ∧ (1 : Int) ≤ 2147483647 by decide), if_neg (show ¬ ¬ (1 : Int) = 1 from fun t => t rfl), sp_230, Option.bind_some]
      show (if (-2147483648 ≤ bc_ (V : Int) ∧ bc_ (V : Int) ≤ 2147483647) then (if ¬ bc_ (V : Int) = 1 then some (false, t) else (if (-2147483648 ≤ b8_ (V : Int) ∧ b8_ (V : Int) ≤ 2147483647) then (if ¬ b8_ (V : Int) = 0 then some (false, t) else _) else none)) else none) = _
      rw [if_pos (by omega)]
      by_cases y : bc_ (V : Int) = 1
      · rw [if_neg (show ¬ ¬ bc_ (V : Int) = 1 from fun t => t y), if_neg (show ¬ ¬ bc_ (V : Int) = 1 from fun t => t y), if_pos (by omega)]
      · rw [if_pos y, if_pos y]
    by_cases ex : ∃ o, o < 8 ∧ V = 2 ^ o
    · obtain ⟨o, ho, eo⟩ := ex
      obtain ⟨b1, b2, b3⟩ := bc_2 o ho
      refine ⟨decide (NC f R C 1 o = NC f R C 0 x), l1 o (by omega) ho (by rw [eo]), fun t et => ?_⟩
      have n1 := NC_nn f R C 1 o
      have n0 := NC_nn f R C 0 x
      rw [← Int.natCast_mul] at n1 n0
      rw [← eo] at b1 b2
      have c158 := sp_158 (s := t) (R := R) (C := C) (by rw [et]; exact M) (by rw [et]; exact T.1) (x : Int) (by omega)
      rw [et] at c158
      rw [r1 t et, if_neg (fun t => t b1), if_neg (fun t => t b2), eo, sp_229 ho t, Option.bind_some, sp_202 et M T (by unfold i32; omega), Option.bind_some]
      show ((gm_158 x t).bind _) = _
      rw [c158, Option.bind_some]
      show (if (-2147483648 ≤ NC f R C 1 o ∧ NC f R C 1 o ≤ 2147483647) then (if (-2147483648 ≤ NC f R C 0 x ∧ NC f R C 0 x ≤ 2147483647) then (if ¬ NC f R C 1 o = NC f R C 0 x then some (false, t) else some (true, t)) else none) else none) = _
      rw [if_pos (by omega), if_pos (by omega)]
      by_cases y : NC f R C 1 o = NC f R C 0 x
      · rw [if_neg (fun t => t y), decide_eq_true y]
      · rw [if_pos y, decide_eq_false y]
    · refine ⟨false, l2 fun o h1 h2 h3 => ex ⟨o, h2, by omega⟩, fun t et => ?_⟩
      rw [r1 t et]
      by_cases y : bc_ V = 1
      · rw [if_neg (fun t => t y), if_pos (fun y2 => ex (bc_1 V (by omega) y y2))]
      · rw [if_pos y]
  · rw [e]
    rw [if_pos (show ¬ (2 : Int) = 3 by decide), if_neg (show ¬ ¬ (2 : Int) = 2 from fun t => t rfl), sp_230, Option.bind_some, if_pos (show -2147483648 ≤ bc_ (V : Int) ∧ bc_ (V : Int) ≤ 2147483647 by omega)]
    have r2 : ∀ t : gx_S, t.1 216 = f → gm_222 x 2 t = if bc_ V ≤ 1 then some (false, t) else some (true, t) := fun t et => by
      unfold gm_222
      rw [c221 t et, Option.bind_some, if_pos (show (-2147483648 : Int) ≤ 2 ∧ (2 : Int) ≤ 2147483647 by decide), if_pos (show ¬ (2 : Int) = 1 by decide), if_neg (show ¬ ¬ (2 : Int) = 2 from fun t => t rfl), sp_230, Option.bind_some, if_pos (show -2147483648 ≤ bc_ (V : Int) ∧ bc_ (V : Int) ≤ 2147483647 by omega)]
    by_cases y : bc_ V ≤ 1
    · exact ⟨false, by rw [if_pos y], fun t et => by rw [r2 t et, if_pos y]⟩
    · exact ⟨true, by rw [if_neg y], fun t et => by rw [r2 t et, if_neg y]⟩
  · rw [e]
    rw [if_neg (show ¬ ¬ (3 : Int) = 3 from fun t => t rfl), e8, if_pos (by omega)]
    have r3 : ∀ t : gx_S, t.1 216 = f → gm_222 x 3 t = if ¬ b8_ V = 1 then some (false, t) else some (true, t) := fun t et => by
      unfold gm_222
      rw [c221 t et, Option.bind_some, if_pos (show (-2147483648 : Int) ≤ 3 ∧ (3 : Int) ≤ 2147483647 by decide), if_pos (show ¬ (3 : Int) = 1 by decide), if_pos (show ¬ (3 : Int) = 2 by decide), e8, if_pos (by omega)]
    by_cases y : b8_ V = 1
    · exact ⟨true, by rw [if_neg (fun t => t y)], fun t et => by rw [r3 t et, if_neg (fun t => t y)]⟩
    · exact ⟨false, by rw [if_pos y], fun t et => by rw [r3 t et, if_pos y]⟩
end
section
/-! QUERIES: apart, whole -/
def ulk (f : Nat → Int) (C n : Nat) : Int := sg (fun k => if f (52 + 96 * 0 + 12 * (k / C) + k % C) = f (52 + 96 * 1 + 12 * (k / C) + k % C) then 0 else 1) n
theorem sl_64 {s : gx_S} {f : Nat → Int} {R C : Nat} (m : MR s 1 f R C) (M : MP f R C) (T : TT f) : ∀ (n k : Nat), R * C < n + k → k ≤ R * C → gm_64_9 n 1 ((R * C : Nat) : Int) (ulk f C k) k s = some (ulk f C (R * C), s) := by
  have hRC := RC_96 M.1.2.2.1 M.1.2.2.2
  intro n
  induction n with
  | zero => intro k h; omega
  | succ n ih =>
    intro k h hk
    rw [gm_64_9, if_pos (by omega), if_pos (by omega)]
    by_cases q : k = R * C
    · rw [if_pos (by omega), ← q]
    · obtain ⟨c0, c1⟩ := sp_60h m M T (show k < R * C by omega)
      obtain ⟨⟨o1, o2⟩, n1, n2⟩ := old_r M T (show k < R * C by omega)
      have ce : ((k : Int) + 1) = ((k + 1 : Nat) : Int) := rfl
      have e : ulk f C (k + 1) = ulk f C k + (if f (52 + 96 * 0 + 12 * (k / C) + k % C) = f (52 + 96 * 1 + 12 * (k / C) + k % C) then 0 else 1) := rfl
      rw [if_neg (by omega), c0, Option.bind_some]
      show ((gm_60 1 1 k s).bind _) = _
      rw [c1, Option.bind_some]
      show (if (-2147483648 ≤ f (52 + 96 * 0 + 12 * (k / C) + k % C) ∧ f (52 + 96 * 0 + 12 * (k / C) + k % C) ≤ 2147483647) then (if (-2147483648 ≤ f (52 + 96 * 1 + 12 * (k / C) + k % C) ∧ f (52 + 96 * 1 + 12 * (k / C) + k % C) ≤ 2147483647) then (if f (52 + 96 * 0 + 12 * (k / C) + k % C) = f (52 + 96 * 1 + 12 * (k / C) + k % C) then gm_64_32 (gm_64_9 n) 1 ((R * C : Nat) : Int) (ulk f C k) k s else gm_64_32 (gm_64_9 n) 1 ((R * C : Nat) : Int) (ulk f C k + 1) k s) else none) else none) = _
      rw [if_pos (by omega), if_pos (by omega)]
      unfold gm_64_32
      by_cases z : f (52 + 96 * 0 + 12 * (k / C) + k % C) = f (52 + 96 * 1 + 12 * (k / C) + k % C)
      · rw [if_pos z, Int.add_zero] at e
        rw [if_pos z, ← e, ce]
        exact ih (k + 1) (by omega) (by omega)
      · rw [if_neg z] at e
        rw [if_neg z, ← e, ce]
        exact ih (k + 1) (by omega) (by omega)
theorem sl_223 {s : gx_S} {f : Nat → Int} {R C : Nat} (ef : s.1 216 = f) (M : MP f R C) (T : TT f) : ∀ (n k : Nat), R * C < n + k → k ≤ R * C → gm_223_34 n 0 (ulk f C k) k s = gm_223_78 0 (ulk f C (R * C)) s := by
  have hRC := RC_96 M.1.2.2.1 M.1.2.2.2
  have hz : mz s R C := by
    unfold mz
    rw [ef]
    exact M.1
  have ec : s.1 216 0 * s.1 216 1 = ((R * C : Nat) : Int) := by rw [hz.1, hz.2.1, Int.natCast_mul]
  intro n
  induction n with
  | zero => intro k h; omega
  | succ n ih =>
    intro k h hk
    rw [gm_223_34, sp_151, Option.bind_some, ec, if_pos (by omega), if_pos (by omega)]
    by_cases q : k = R * C
    · rw [if_pos (by omega), ← q]
    · have c0 := sp_152 hz 0 k (by omega) (by omega)
      have c1 := sp_152 hz 1 k (by omega) (by omega)
      have e0 : cdx s C 0 k = f (52 + 96 * 0 + 12 * (k / C) + k % C) := by rw [← ef]; rfl
      have e1 : cdx s C 1 k = f (52 + 96 * 1 + 12 * (k / C) + k % C) := by rw [← ef]; rfl
      rw [e0] at c0
      rw [e1] at c1
      have c0 : gm_152 0 k s = _ := c0
      have c1 : gm_152 1 k s = _ := c1
      obtain ⟨⟨o1, o2⟩, n1, n2⟩ := old_r M T (show k < R * C by omega)
      have ce : ((k : Int) + 1) = ((k + 1 : Nat) : Int) := rfl
      have e : ulk f C (k + 1) = ulk f C k + (if f (52 + 96 * 0 + 12 * (k / C) + k % C) = f (52 + 96 * 1 + 12 * (k / C) + k % C) then 0 else 1) := rfl
      rw [if_neg (by omega), if_pos (show (-2147483648 : Int) ≤ 0 ∧ (0 : Int) ≤ 2147483647 by decide), if_neg (show ¬ ¬ (0 : Int) = 0 from fun t => t rfl)]
      show ((gm_152 0 k s).bind _) = _
      rw [c0, Option.bind_some]
      show ((gm_152 1 k s).bind _) = _
      rw [c1, Option.bind_some]
      show (if (-2147483648 ≤ f (52 + 96 * 0 + 12 * (k / C) + k % C) ∧ f (52 + 96 * 0 + 12 * (k / C) + k % C) ≤ 2147483647) then (if (-2147483648 ≤ f (52 + 96 * 1 + 12 * (k / C) + k % C) ∧ f (52 + 96 * 1 + 12 * (k / C) + k % C) ≤ 2147483647) then (if f (52 + 96 * 0 + 12 * (k / C) + k % C) = f (52 + 96 * 1 + 12 * (k / C) + k % C) then gm_223_67 (gm_223_34 n) 0 k (ulk f C k) 0 s else gm_223_67 (gm_223_34 n) 0 k (ulk f C k) 1 s) else none) else none) = _
      rw [if_pos (by omega), if_pos (by omega)]
      unfold gm_223_67
      by_cases z : f (52 + 96 * 0 + 12 * (k / C) + k % C) = f (52 + 96 * 1 + 12 * (k / C) + k % C)
      · rw [if_pos z] at e
        rw [if_pos z, sp_131 (.inl rfl), Option.bind_some, ← e, ce]
        exact ih (k + 1) (by omega) (by omega)
      · rw [if_neg z] at e
        rw [if_neg z, sp_131 (.inr rfl), Option.bind_some, ← e, ce]
        exact ih (k + 1) (by omega) (by omega)
theorem sl_110 {s : gx_S} {f : Nat → Int} {R C : Nat} {w : Int} (m : MR s 1 f R C) (M : MP f R C) (T : TT f) (hw : w = 1 ∨ w = 2 ∨ w = 3) : ∀ (n j : Nat) (a : Int), 8 < n + j → j ≤ 8 → ∃ r : Int, gm_110_49 n w a j s = some (r, s) ∧ ∀ t : gx_S, t.1 216 = f → gm_223_80 n w a j t = some (r, t) := by
  intro n
  induction n with
  | zero => intro j a h; omega
  | succ n ih =>
    intro j a h hj
    by_cases q : j = 8
    · refine ⟨a, ?_, fun t et => ?_⟩
      · rw [gm_110_49, if_pos (by omega), if_pos (by omega)]
      · rw [gm_223_80, if_pos (by omega), if_pos (by omega)]
        rfl
    · have ce : ((j : Int) + 1) = ((j + 1 : Nat) : Int) := rfl
      obtain ⟨v, v1, v2⟩ := la_ m M T (show j < 8 by omega) hw
      obtain ⟨r, r1, r2⟩ := ih (j + 1) (a + gb v) (by omega) (by omega)
      refine ⟨r, ?_, fun t et => ?_⟩
      · rw [gm_110_49, if_pos (by omega), if_neg (by omega), v1, Option.bind_some]
        unfold gm_110_67
        cases v with
        | false =>
          rw [if_pos (show gb (false, s).1 = 0 from rfl), ce]
          have e : a + gb false = a := Int.add_zero a
          rw [e] at r1
          exact r1
        | true =>
          rw [if_neg (show ¬ gb (true, s).1 = 0 from (by decide : ¬ gb true = 0)), ce]
          exact r1
      · rw [gm_223_80, if_pos (by omega), if_neg (by omega), if_pos (by omega), if_neg (by omega), v2 t et, Option.bind_some]
        show ((gm_131 (gb v) t).bind _) = _
        rw [sp_131 (show gb v = 0 ∨ gb v = 1 by cases v; exact .inl rfl; exact .inr rfl), Option.bind_some, ce]
        exact r2 t et
theorem inv_apart {s : gx_S} (h : INV s) {x : Int} (hx : i32 x) : two s (gm_110 x) (gm_223 x) := by
  obtain ⟨f, R, C, n, pf, L, tb, c, r, v⟩ := id h
  have hx' := hx
  unfold i32 at hx'
  have hRC := RC_96 v.1.1.2.2.1 v.1.1.2.2.2
  have m := c.1
  have e6 : s.1 1 6 = f 2 := m.2.2.1
  have c0 := sp_56 (s := s) (a := 1) (by decide +kernel) 0 (by omega) (by rw [e6]; exact v.1.2.1)
  have c1 := sp_56 (s := s) (a := 1) (by decide +kernel) 1 (by omega) (by rw [e6]; exact v.1.2.1)
  rw [e6] at c0 c1
  have c0 : gm_56 1 0 s = _ := c0
  have c1 : gm_56 1 1 s = _ := c1
  have d0 := sp_144 (s := s) 0 (by omega) (by rw [r.1]; exact v.1.2.1)
  have d1 := sp_144 (s := s) 1 (by omega) (by rw [r.1]; exact v.1.2.1)
  rw [r.1] at d0 d1
  have d0 : gm_144 0 s = _ := d0
  have d1 : gm_144 1 s = _ := d1
  have s1 : gm_110 x s = if (0 ≤ x ∧ x ≤ 3) ∧ TT f then (if ¬ x = 0 then gm_110_49 100000 x 0 0 s else ((gm_64 1 s).bind fun q29 => some (q29.1, q29.2))) else some (-1, s) := by
    unfold gm_110 TT
    rw [if_pos hx']
    by_cases a : x < 0
    · rw [if_pos a, if_neg (fun q => by have := q.1; omega)]
    · rw [if_neg a]
      by_cases b : 3 < x
      · rw [if_pos b, if_neg (fun q => by have := q.1; omega)]
      · rw [if_neg b, c0, Option.bind_some]
        by_cases d : f 2 / 2 ^ 0 % 2 = 1
        · rw [if_neg (fun q => (gbD s).mp q d)]
          show ((gm_56 1 1 s).bind _) = _
          rw [c1, Option.bind_some]
          by_cases e : f 2 / 2 ^ 1 % 2 = 1
          · rw [if_pos (fun q => (gbD s).mp q e), if_pos (show (0 ≤ x ∧ x ≤ 3) ∧ f 2 / 2 ^ 0 % 2 = 1 ∧ f 2 / 2 ^ 1 % 2 = 1 from ⟨by omega, d, e⟩)]
          · rw [if_neg (fun q => q ((gbD s).mpr e)), if_neg (fun q => e q.2.2)]
        · rw [if_pos ((gbD s).mpr d), if_neg (fun q => d q.2.1)]
  have s2 : gm_223 x s = if (0 ≤ x ∧ x ≤ 3) ∧ TT f then gm_223_34 100000 x 0 0 s else some (-1, s) := by
    unfold gm_223 TT
    rw [if_pos hx', in_ s hx (by omega) (by omega), Option.bind_some]
    by_cases a : 0 ≤ x ∧ x ≤ 3
    · rw [if_neg (fun q => (gbD s).mp q a)]
      show ((gm_144 0 s).bind _) = _
      rw [d0, Option.bind_some]
      by_cases d : f 2 / 2 ^ 0 % 2 = 1
      · rw [if_neg (fun q => (gbD s).mp q d)]
        show ((gm_144 1 s).bind _) = _
        rw [d1, Option.bind_some]
        by_cases e : f 2 / 2 ^ 1 % 2 = 1
        · rw [if_pos (fun q => (gbD s).mp q e), if_pos (show (0 ≤ x ∧ x ≤ 3) ∧ f 2 / 2 ^ 0 % 2 = 1 ∧ f 2 / 2 ^ 1 % 2 = 1 from ⟨a, d, e⟩)]
        · rw [if_neg (fun q => q ((gbD s).mpr e)), if_neg (fun q => e q.2.2)]
      · rw [if_pos ((gbD s).mpr d), if_neg (fun q => d q.2.1)]
    · rw [if_pos ((gbD s).mpr a), if_neg (fun q => a q.1)]
  by_cases ok : (0 ≤ x ∧ x ≤ 3) ∧ TT f
  · rw [if_pos ok] at s1 s2
    obtain ⟨a, T⟩ := ok
    by_cases z : x = 0
    · have t1 := sl_64 m v.1 T 100000 0 (by omega) (by omega)
      have t1 : gm_64_9 100000 1 ((R * C : Nat) : Int) 0 0 s = _ := t1
      have g1 : gm_64 1 s = some (ulk f C (R * C), s) := by
        unfold gm_64
        rw [if_pos (by decide +kernel), sp_58 (MR_cz m v.1), Option.bind_some]
        exact t1
      rw [if_neg (fun t => t z), g1, Option.bind_some] at s1
      have t2 := sl_223 r.1 v.1 T 100000 0 (by omega) (by omega)
      have t2 : gm_223_34 100000 0 0 0 s = _ := t2
      rw [z, t2] at s2
      have t3 : gm_223_78 0 (ulk f C (R * C)) s = some (ulk f C (R * C), s) := by
        unfold gm_223_78
        rw [show (100000 : Nat) = 99999 + 1 from rfl, gm_223_80, if_pos (by decide), if_neg (by decide), if_pos (by decide), if_pos (by decide)]
        rfl
      rw [t3] at s2
      rw [z] at s1 ⊢
      exact ⟨_, s, s, s1, s2, h⟩
    · rw [if_pos z] at s1
      obtain ⟨q, q1, q2⟩ := sl_110 m v.1 T (show x = 1 ∨ x = 2 ∨ x = 3 by omega) 100000 0 0 (by omega) (by omega)
      have q1 : gm_110_49 100000 x 0 0 s = _ := q1
      have q2 := q2 s r.1
      have q2 : gm_223_80 100000 x 0 0 s = _ := q2
      have ec : s.1 216 0 * s.1 216 1 = ((R * C : Nat) : Int) := by rw [r.1, v.1.1.1, v.1.1.2.1, Int.natCast_mul]
      have t2 : gm_223_34 100000 x 0 0 s = gm_223_80 100000 x 0 0 s := by
        rw [show gm_223_34 100000 x 0 0 s = gm_223_34 (99999 + 1) x 0 0 s from rfl, gm_223_34, sp_151, Option.bind_some, ec, if_pos (by decide), if_pos (by omega)]
        by_cases y : ((R * C : Nat) : Int) ≤ 0
        · rw [if_pos y]
          rfl
        · rw [if_neg y, if_pos hx', if_pos z]
          rfl
      exact ⟨q, s, s, s1.trans q1, s2.trans (t2.trans q2), h⟩
  · rw [if_neg ok] at s1 s2
    exact ⟨-1, s, s, s1, s2, h⟩
end
section
/-! QUERIES: piece: the class's count -/
/-- the place of a cell's piece (288 and more: none) -/
def plc (f : Nat → Int) (C k : Nat) : Nat := if co f C 0 k < 8 then (co f C 0 k * 9 + co f C 1 k) * 4 + co f C 2 k else 288
def pcs (f : Nat → Int) (C p n : Nat) : Int := sg (fun k => if plc f C k = p then 1 else 0) n
theorem pcs_r (f : Nat → Int) (C p : Nat) : ∀ n : Nat, 0 ≤ pcs f C p n ∧ pcs f C p n ≤ n := by
  intro n
  induction n with
  | zero => exact (show (0 : Int) ≤ 0 ∧ (0 : Int) ≤ 0 by decide)
  | succ n ih =>
    have e : pcs f C p (n + 1) = pcs f C p n + (if plc f C n = p then 1 else 0) := rfl
    rw [e]
    split <;> omega
def nps (f : Nat → Int) (C n j : Nat) : Int := sg (fun p => bi (0 < pcs f C p n)) j
theorem plc_r {f : Nat → Int} {R C k : Nat} (M : MP f R C) (h7 : f 2 = 7) (hk : k < R * C) (h : co f C 0 k < 8) : plc f C k = (co f C 0 k * 9 + co f C 1 k) * 4 + co f C 2 k ∧ plc f C k < 288 := by
  obtain ⟨_, ⟨_, c1⟩, _, c2⟩ := co_s M h7 hk
  have e : plc f C k = (co f C 0 k * 9 + co f C 1 k) * 4 + co f C 2 k := if_pos h
  rw [e]
  omega
theorem nps_s {f : Nat → Int} {C n p : Nat} (hp : plc f C n = p) (h : p < 288) : nps f C (n + 1) 288 = nps f C n 288 + (if pcs f C p n = 0 then 1 else 0) := by
  have r := pcs_r f C p n
  have e : pcs f C p (n + 1) = pcs f C p n + 1 := by
    show pcs f C p n + (if plc f C n = p then 1 else 0) = _
    rw [if_pos hp]
  refine sg_upd (i := p) ?_ (fun q hq => ?_) h
  · show bi (0 < pcs f C p (n + 1)) = bi (0 < pcs f C p n) + _
    rw [e]
    unfold bi
    rw [if_pos (by omega)]
    by_cases z : pcs f C p n = 0
    · rw [if_neg (by omega), if_pos z]
      rfl
    · rw [if_pos (by omega), if_neg z]
      rfl
  · show bi (0 < pcs f C q (n + 1)) = bi (0 < pcs f C q n)
    have e : pcs f C q (n + 1) = pcs f C q n := by
      show pcs f C q n + (if plc f C n = q then 1 else 0) = _
      rw [if_neg (by omega), Int.add_zero]
    rw [e]
theorem sl_123 {f : Nat → Int} {R C : Nat} (M : MP f R C) (h7 : f 2 = 7) : ∀ (n k : Nat) (s : gx_S), R * C < n + k → k ≤ R * C → MR s 1 f R C → (∀ p, p < 288 → s.1 69 p = pcs f C p k) → ∃ u : gx_S, gm_123_20 n (nps f C k 288) ((R * C : Nat) : Int) k s = some (nps f C (R * C) 288, u) ∧ u.2 = s.2 ∧ (∀ k i, k ≠ 69 → u.1 k i = s.1 k i) ∧ ∀ p, p < 288 → u.1 69 p = pcs f C p (R * C) := by
  have hRC := RC_96 M.1.2.2.1 M.1.2.2.2
  intro n
  induction n with
  | zero => intro k s h; omega
  | succ n ih =>
    intro k s h hk m e
    rw [gm_123_20, if_pos (by omega), if_pos (by omega)]
    by_cases q : k = R * C
    · rw [if_pos (by omega), ← q]
      exact ⟨s, rfl, rfl, fun _ _ _ => rfl, e⟩
    · obtain ⟨g0, g1, g2⟩ := sp_60g m M h7 (show k < R * C by omega)
      obtain ⟨⟨_, c0⟩, ⟨_, c1⟩, _, c2⟩ := co_s M h7 (show k < R * C by omega)
      have ce : ((k : Int) + 1) = ((k + 1 : Nat) : Int) := rfl
      rw [if_neg (by omega), g0, Option.bind_some, if_pos (by omega)]
      by_cases z : 8 ≤ co f C 0 k
      · have np : ∀ p, p < 288 → pcs f C p (k + 1) = pcs f C p k := fun p hp => by
          show pcs f C p k + (if plc f C k = p then 1 else 0) = _
          have e8 : plc f C k = 288 := if_neg (by omega)
          rw [e8, if_neg (by omega), Int.add_zero]
        have nn : nps f C (k + 1) 288 = nps f C k 288 := sg_eq fun p hp => by rw [np p hp]
        rw [if_pos (by omega)]
        unfold gm_123_101
        rw [← nn, ce]
        exact ih (k + 1) s (by omega) (by omega) m fun p hp => by rw [e p hp, np p hp]
      · obtain ⟨p1, p2⟩ := plc_r M h7 (show k < R * C by omega) (by omega)
        obtain ⟨p, hp⟩ : ∃ p, p = plc f C k := ⟨_, rfl⟩
        rw [← hp] at p1 p2
        have ei : ((((co f C 0 k : Int) * 9 + (co f C 1 k : Int)) * 4) + (co f C 2 k : Int)) = (p : Int) := by omega
        have pr := pcs_r f C p k
        rw [if_neg (by omega)]
        show ∃ u : gx_S, ((gm_60 1 1 k s).bind _) = _ ∧ _
        rw [g1, Option.bind_some]
        show ∃ u : gx_S, ((gm_60 1 2 k s).bind _) = _ ∧ _
        rw [g2, Option.bind_some]
        show ∃ u : gx_S, (if 0 ≤ ((((co f C 0 k : Int) * 9 + (co f C 1 k : Int)) * 4) + (co f C 2 k : Int)) ∧ ((((co f C 0 k : Int) * 9 + (co f C 1 k : Int)) * 4) + (co f C 2 k : Int)) < 288 then (if (-2147483648 ≤ (s.1 69 (((((co f C 0 k : Int) * 9 + (co f C 1 k : Int)) * 4) + (co f C 2 k : Int))).toNat) ∧ (s.1 69 (((((co f C 0 k : Int) * 9 + (co f C 1 k : Int)) * 4) + (co f C 2 k : Int))).toNat) ≤ 2147483647) then (if ¬ (s.1 69 (((((co f C 0 k : Int) * 9 + (co f C 1 k : Int)) * 4) + (co f C 2 k : Int))).toNat) = 0 then gm_123_88 (gm_123_20 n) ((R * C : Nat) : Int) k ((((co f C 0 k : Int) * 9 + (co f C 1 k : Int)) * 4) + (co f C 2 k : Int)) (nps f C k 288) 0 s else gm_123_88 (gm_123_20 n) ((R * C : Nat) : Int) k ((((co f C 0 k : Int) * 9 + (co f C 1 k : Int)) * 4) + (co f C 2 k : Int)) (nps f C k 288) 1 s) else none) else none) = _ ∧ _
        rw [ei, if_pos (by omega), show ((p : Int)).toNat = p by omega, e p p2, if_pos (by omega)]
        have ns := nps_s hp.symm p2
        have tail : ∀ v : Int, nps f C (k + 1) 288 = nps f C k 288 + v → gm_123_88 (gm_123_20 n) ((R * C : Nat) : Int) k p (nps f C k 288) v s = gm_123_20 n (nps f C (k + 1) 288) ((R * C : Nat) : Int) ((k + 1 : Nat) : Int) (gw1 s 69 p (pcs f C p k + 1)) := fun v hv => by
          unfold gm_123_88 gm_123_101
          rw [if_pos (by omega), show ((p : Int)).toNat = p by omega, e p p2, ← hv, ce]
        have st : (if ¬ pcs f C p k = 0 then gm_123_88 (gm_123_20 n) ((R * C : Nat) : Int) k p (nps f C k 288) 0 s else gm_123_88 (gm_123_20 n) ((R * C : Nat) : Int) k p (nps f C k 288) 1 s) = gm_123_20 n (nps f C (k + 1) 288) ((R * C : Nat) : Int) ((k + 1 : Nat) : Int) (gw1 s 69 p (pcs f C p k + 1)) := by
          by_cases y : pcs f C p k = 0
          · rw [if_pos y] at ns
            rw [if_neg (fun t => t y)]
            exact tail 1 ns
          · rw [if_neg y] at ns
            rw [if_pos y]
            exact tail 0 ns
        rw [st]
        obtain ⟨u, u1, u2, u3, u4⟩ := ih (k + 1) (gw1 s 69 p (pcs f C p k + 1)) (by omega) (by omega) (MR_o (fun k' j q1 q2 => by rw [gw1_1, if_neg (by omega)]) m) fun t ht => by
          rw [gw1_1]
          show _ = pcs f C t k + (if plc f C k = t then 1 else 0)
          by_cases y : t = p
          · rw [if_pos ⟨rfl, y⟩, y, if_pos hp.symm]
          · rw [if_neg (fun q => y q.2), if_neg (by omega), e t ht, Int.add_zero]
        exact ⟨u, u1, u2, fun k i h1 => by rw [u3 k i h1, gw1_1, if_neg (fun q => h1 q.1)], u4⟩
end
section
/-! QUERIES: piece: the reference's count, places -/
theorem sl_219 {s : gx_S} {f : Nat → Int} {R C p : Nat} (ef : s.1 216 = f) (M : MP f R C) (h7 : f 2 = 7) (hp : p < 288) : ∀ (n k : Nat), R * C < n + k → k ≤ R * C → gm_219_6 n ((p / 36 : Nat) : Int) ((p / 4 % 9 : Nat) : Int) ((p % 4 : Nat) : Int) (pcs f C p k) k s = some (pcs f C p (R * C), s) := by
  have hRC := RC_96 M.1.2.2.1 M.1.2.2.2
  have hm : mz s R C := by
    unfold mz
    rw [ef]
    exact M.1
  have ec : s.1 216 0 * s.1 216 1 = ((R * C : Nat) : Int) := by rw [hm.1, hm.2.1, Int.natCast_mul]
  intro n
  induction n with
  | zero => intro k h; omega
  | succ n ih =>
    intro k h hk
    rw [gm_219_6, sp_151, Option.bind_some, ec, if_pos (by omega), if_pos (by omega)]
    by_cases q : k = R * C
    · rw [if_pos (by omega), ← q]
    · obtain ⟨⟨e0, c0⟩, ⟨e1, c1⟩, e2, c2⟩ := co_s M h7 (show k < R * C by omega)
      have g0 := sp_152 hm 0 k (by omega) (by omega)
      have g1 := sp_152 hm 1 k (by omega) (by omega)
      have g2 := sp_152 hm 2 k (by omega) (by omega)
      have x0 : cdx s C 0 k = co f C 0 k := by rw [← e0, ← ef]; rfl
      have x1 : cdx s C 1 k = co f C 1 k := by rw [← e1, ← ef]; rfl
      have x2 : cdx s C 2 k = co f C 2 k := by rw [← e2, ← ef]; rfl
      rw [x0] at g0
      rw [x1] at g1
      rw [x2] at g2
      have g0 : gm_152 0 k s = _ := g0
      have g1 : gm_152 1 k s = _ := g1
      have g2 : gm_152 2 k s = _ := g2
      have ce : ((k : Int) + 1) = ((k + 1 : Nat) : Int) := rfl
      have e : pcs f C p (k + 1) = pcs f C p k + (if plc f C k = p then 1 else 0) := rfl
      have ip : plc f C k = p ↔ (co f C 0 k = p / 36 ∧ co f C 1 k = p / 4 % 9 ∧ co f C 2 k = p % 4) := by
        unfold plc
        by_cases z : co f C 0 k < 8
        · rw [if_pos z]
          omega
        · rw [if_neg z]
          omega
      have t0 : ¬ plc f C k = p → gm_219_55 (gm_219_6 n) ((p / 36 : Nat) : Int) ((p / 4 % 9 : Nat) : Int) ((p % 4 : Nat) : Int) k (pcs f C p k) 0 s = some (pcs f C p (R * C), s) := fun z => by
        rw [if_neg z] at e
        unfold gm_219_55
        rw [sp_131 (.inl rfl), Option.bind_some, ← e, ce]
        exact ih (k + 1) (by omega) (by omega)
      rw [if_neg (by omega)]
      show ((gm_152 0 k s).bind _) = _
      rw [g0, Option.bind_some, if_pos (by omega), if_pos (by omega)]
      by_cases z0 : co f C 0 k = p / 36
      · rw [if_neg (show ¬ ¬ (co f C 0 k : Int) = ((p / 36 : Nat) : Int) by omega)]
        show ((gm_152 1 k s).bind _) = _
        rw [g1, Option.bind_some, if_pos (by omega), if_pos (by omega)]
        by_cases z1 : co f C 1 k = p / 4 % 9
        · rw [if_neg (show ¬ ¬ (co f C 1 k : Int) = ((p / 4 % 9 : Nat) : Int) by omega)]
          show ((gm_152 2 k s).bind _) = _
          rw [g2, Option.bind_some, if_pos (by omega), if_pos (by omega)]
          by_cases z2 : co f C 2 k = p % 4
          · rw [if_neg (show ¬ ¬ (co f C 2 k : Int) = ((p % 4 : Nat) : Int) by omega)]
            rw [if_pos (ip.mpr ⟨z0, z1, z2⟩)] at e
            unfold gm_219_55
            rw [sp_131 (.inr rfl), Option.bind_some, ← e, ce]
            exact ih (k + 1) (by omega) (by omega)
          · rw [if_pos (show ¬ (co f C 2 k : Int) = ((p % 4 : Nat) : Int) by omega)]
            exact t0 fun y => z2 (ip.mp y).2.2
        · rw [if_pos (show ¬ (co f C 1 k : Int) = ((p / 4 % 9 : Nat) : Int) by omega)]
          exact t0 fun y => z1 (ip.mp y).2.1
      · rw [if_pos (show ¬ (co f C 0 k : Int) = ((p / 36 : Nat) : Int) by omega)]
        exact t0 fun y => z0 (ip.mp y).1
theorem sp_219 {s : gx_S} {f : Nat → Int} {R C p : Nat} (ef : s.1 216 = f) (M : MP f R C) (h7 : f 2 = 7) (hp : p < 288) : gm_219 ((p : Int) / 36) (((p : Int) / 4) % 9) ((p : Int) % 4) s = some (pcs f C p (R * C), s) := by
  have hRC := RC_96 M.1.2.2.1 M.1.2.2.2
  exact sl_219 ef M h7 hp 100000 0 (by omega) (by omega)
/-- the pieces ahead of place j -/
def npj (f : Nat → Int) (C n j : Nat) : Int := sg (fun p => bi (0 < pcs f C p n)) j
theorem npj_r (f : Nat → Int) (C n : Nat) : ∀ j : Nat, 0 ≤ npj f C n j ∧ npj f C n j ≤ j := by
  intro j
  induction j with
  | zero => exact (show (0 : Int) ≤ 0 ∧ (0 : Int) ≤ 0 by decide)
  | succ j ih =>
    have e : npj f C n (j + 1) = npj f C n j + bi (0 < pcs f C j n) := rfl
    have := bi_r (0 < pcs f C j n)
    omega
/-- the k-th piece: on both sides the same place -/
theorem sl_124 {f : Nat → Int} {R C : Nat} {x w : Int} {s : gx_S} (M : MP f R C) (h7 : f 2 = 7) (hw : 0 ≤ w ∧ w ≤ 3) (hx : 0 ≤ x) (e : ∀ p, p < 288 → s.1 69 p = pcs f C p (R * C)) : ∀ (n j : Nat), 288 < n + j → j ≤ 288 → npj f C (R * C) j ≤ x → x < npj f C (R * C) 288 → ∃ p : Nat, p < 288 ∧ gm_124_4 n (x - npj f C (R * C) j) j s = some ((p : Int), s) ∧ ∀ t : gx_S, t.1 216 = f → gm_220_31 n x w (npj f C (R * C) j) j t = some ((if w = 0 then ((p / 36 : Nat) : Int) else if w = 1 then ((p / 4 % 9 : Nat) : Int) else if w = 2 then ((p % 4 : Nat) : Int) else pcs f C p (R * C)), t) := by
  have hRC := RC_96 M.1.2.2.1 M.1.2.2.2
  intro n
  induction n with
  | zero => intro j h; omega
  | succ n ih =>
    intro j h hj h1 h2
    by_cases q : j = 288
    · rw [q] at h1
      omega
    · have pr := pcs_r f C j (R * C)
      have nr := npj_r f C (R * C) j
      have nr2 := npj_r f C (R * C) 288
      have ce : ((j : Int) + 1) = ((j + 1 : Nat) : Int) := rfl
      have en : npj f C (R * C) (j + 1) = npj f C (R * C) j + bi (0 < pcs f C j (R * C)) := rfl
      -- the reference's step
      have rs : ∀ t : gx_S, t.1 216 = f → gm_220_31 (n + 1) x w (npj f C (R * C) j) j t = if pcs f C j (R * C) ≤ 0 then gm_220_113 (gm_220_31 n) x w (npj f C (R * C) j) j (pcs f C j (R * C)) t else (if ¬ npj f C (R * C) j = x then gm_220_113 (gm_220_31 n) x w (npj f C (R * C) j) j (pcs f C j (R * C)) t else (if ¬ w = 0 then (if ¬ w = 1 then (if ¬ w = 2 then some (pcs f C j (R * C), t) else some (((j : Int) % 4), t)) else some ((((j : Int) / 4) % 9), t)) else some (((j : Int) / 36), t))) := fun t et => by
        rw [gm_220_31, if_pos (by omega), if_neg (by omega), if_pos (by omega), if_pos (by omega), sp_219 et M h7 (by omega), Option.bind_some]
        show (if (-2147483648 ≤ pcs f C j (R * C) ∧ pcs f C j (R * C) ≤ 2147483647) then (if pcs f C j (R * C) ≤ 0 then gm_220_113 (gm_220_31 n) x w (npj f C (R * C) j) j (pcs f C j (R * C)) t else (if (-2147483648 ≤ npj f C (R * C) j ∧ npj f C (R * C) j ≤ 2147483647) then (if (-2147483648 ≤ x ∧ x ≤ 2147483647) then (if ¬ npj f C (R * C) j = x then gm_220_113 (gm_220_31 n) x w (npj f C (R * C) j) j (pcs f C j (R * C)) t else (if (-2147483648 ≤ w ∧ w ≤ 2147483647) then (if ¬ w = 0 then (if ¬ w = 1 then (if ¬ w = 2 then some (pcs f C j (R * C), t) else some (((j : Int) % 4), t)) else some ((((j : Int) / 4) % 9), t)) else some (((j : Int) / 36), t)) else none)) else none) else none)) else none) = _
        rw [if_pos (by omega)]
        by_cases z : pcs f C j (R * C) ≤ 0
        · rw [if_pos z, if_pos z]
        · rw [if_neg z, if_neg z, if_pos (by omega), if_pos (by omega)]
          by_cases y : npj f C (R * C) j = x
          · rw [if_neg (show ¬ ¬ npj f C (R * C) j = x from fun t => t y), if_neg (show ¬ ¬ npj f C (R * C) j = x from fun t => t y), if_pos (by omega)]
          · rw [if_pos y, if_pos y]
      have r13 : ∀ t : gx_S, gm_220_113 (gm_220_31 n) x w (npj f C (R * C) j) j (pcs f C j (R * C)) t = gm_220_31 n x w (npj f C (R * C) (j + 1)) ((j + 1 : Nat) : Int) t := fun t => by
        unfold gm_220_113 gm_220_124
        rw [if_pos (by omega)]
        by_cases z : pcs f C j (R * C) ≤ 0
        · have b : bi (0 < pcs f C j (R * C)) = 0 := if_neg (by omega)
          rw [if_pos z, sp_131 (.inl rfl), Option.bind_some, en, b, ce]
        · have b : bi (0 < pcs f C j (R * C)) = 1 := if_pos (by omega)
          rw [if_neg z, sp_131 (.inr rfl), Option.bind_some, en, b, ce]
      by_cases z : pcs f C j (R * C) ≤ 0
      · have b : bi (0 < pcs f C j (R * C)) = 0 := if_neg (by omega)
        obtain ⟨p, p1, p2, p3⟩ := ih (j + 1) (by omega) (by omega) (by omega) h2
        refine ⟨p, p1, ?_, fun t et => by rw [rs t et, if_pos z, r13 t]; exact p3 t et⟩
        rw [gm_124_4, if_pos (by omega), if_neg (by omega), if_pos (by omega), show ((j : Int)).toNat = j by omega, e j (by omega), if_pos (by omega), if_pos z]
        unfold gm_124_29
        rw [ce]
        rw [en, b, Int.add_zero] at p2
        exact p2
      · have b : bi (0 < pcs f C j (R * C)) = 1 := if_pos (by omega)
        by_cases y : npj f C (R * C) j = x
        · refine ⟨j, by omega, ?_, fun t et => ?_⟩
          · rw [gm_124_4, if_pos (by omega), if_neg (by omega), if_pos (by omega), show ((j : Int)).toNat = j by omega, e j (by omega), if_pos (by omega), if_neg z, if_pos (by omega), if_neg (by omega)]
          · rw [rs t et, if_neg z, if_neg (fun t => t y)]
            by_cases w0 : w = 0
            · rw [if_neg (fun t => t w0), if_pos w0]
              rfl
            · rw [if_pos w0, if_neg w0]
              by_cases w1 : w = 1
              · rw [if_neg (fun t => t w1), if_pos w1]
                rfl
              · rw [if_pos w1, if_neg w1]
                by_cases w2 : w = 2
                · rw [if_neg (fun t => t w2), if_pos w2]
                  rfl
                · rw [if_pos w2, if_neg w2]
        · obtain ⟨p, p1, p2, p3⟩ := ih (j + 1) (by omega) (by omega) (by omega) h2
          refine ⟨p, p1, ?_, fun t et => by rw [rs t et, if_neg z, if_pos y, r13 t]; exact p3 t et⟩
          rw [gm_124_4, if_pos (by omega), if_neg (by omega), if_pos (by omega), show ((j : Int)).toNat = j by omega, e j (by omega), if_pos (by omega), if_neg z, if_pos (by omega), if_pos (by omega)]
          unfold gm_124_29
          rw [ce]
          rw [en, b] at p2
          rw [show x - npj f C (R * C) j + -1 = x - (npj f C (R * C) j + 1) by omega]
          exact p2
end
section
/-! QUERIES: piece, whole -/
theorem sl_220e {f : Nat → Int} {R C : Nat} {x w : Int} (M : MP f R C) (h7 : f 2 = 7) (hxi : i32 x) (hx : x = -1 ∨ npj f C (R * C) 288 ≤ x) : ∀ (n j : Nat) (t : gx_S), 288 < n + j → j ≤ 288 → t.1 216 = f → gm_220_31 n x w (npj f C (R * C) j) j t = some ((if x = -1 then npj f C (R * C) 288 else -1), t) := by
  have hRC := RC_96 M.1.2.2.1 M.1.2.2.2
  unfold i32 at hxi
  -- what is ahead of a place never falls
  have mono : ∀ d j : Nat, npj f C (R * C) j ≤ npj f C (R * C) (j + d) := by
    intro d
    induction d with
    | zero => intro j; exact Int.le_refl _
    | succ d ih =>
      intro j
      have e : npj f C (R * C) (j + (d + 1)) = npj f C (R * C) (j + d) + bi (0 < pcs f C (j + d) (R * C)) := rfl
      have := ih j
      have := bi_r (0 < pcs f C (j + d) (R * C))
      omega
  intro n
  induction n with
  | zero => intro j t h; omega
  | succ n ih =>
    intro j t h hj et
    have nr := npj_r f C (R * C) j
    rw [gm_220_31, if_pos (by omega)]
    by_cases q : j = 288
    · rw [if_pos (by omega), if_pos hxi]
      by_cases z : x = -1
      · rw [if_neg (fun t => t z), if_pos z, q]
      · rw [if_pos z, if_neg z]
    · have pr := pcs_r f C j (R * C)
      have ce : ((j : Int) + 1) = ((j + 1 : Nat) : Int) := rfl
      have en : npj f C (R * C) (j + 1) = npj f C (R * C) j + bi (0 < pcs f C j (R * C)) := rfl
      rw [if_neg (by omega), if_pos (by omega), if_pos (by omega), sp_219 et M h7 (by omega), Option.bind_some]
      show (if (-2147483648 ≤ pcs f C j (R * C) ∧ pcs f C j (R * C) ≤ 2147483647) then (if pcs f C j (R * C) ≤ 0 then gm_220_113 (gm_220_31 n) x w (npj f C (R * C) j) j (pcs f C j (R * C)) t else (if (-2147483648 ≤ npj f C (R * C) j ∧ npj f C (R * C) j ≤ 2147483647) then (if (-2147483648 ≤ x ∧ x ≤ 2147483647) then (if ¬ npj f C (R * C) j = x then gm_220_113 (gm_220_31 n) x w (npj f C (R * C) j) j (pcs f C j (R * C)) t else _) else none) else none)) else none) = _
      rw [if_pos (by omega)]
      by_cases z : pcs f C j (R * C) ≤ 0
      · have b : bi (0 < pcs f C j (R * C)) = 0 := if_neg (by omega)
        have i := ih (j + 1) t (by omega) (by omega) et
        rw [en, b] at i
        rw [if_pos z]
        unfold gm_220_113 gm_220_124
        rw [if_pos (by omega), if_pos z, sp_131 (.inl rfl), Option.bind_some, ce]
        exact i
      · have b : bi (0 < pcs f C j (R * C)) = 1 := if_pos (by omega)
        have i := ih (j + 1) t (by omega) (by omega) et
        rw [en, b] at i
        have mo := mono (288 - (j + 1)) (j + 1)
        rw [show j + 1 + (288 - (j + 1)) = 288 by omega, en, b] at mo
        rw [if_neg z, if_pos (by omega), if_pos (by omega), if_pos (by omega)]
        unfold gm_220_113 gm_220_124
        rw [if_pos (by omega), if_neg z, sp_131 (.inr rfl), Option.bind_some, ce]
        exact i
theorem inv_piece {s : gx_S} (h : INV s) {x w : Int} (hx : i32 x) (hw : i32 w) : two s (gm_96 x w) (gm_220 x w) := by
  obtain ⟨f, R, C, n, pf, L, tb, c, r, v⟩ := id h
  have hx' := hx
  have hw' := hw
  unfold i32 at hx' hw'
  have hRC := RC_96 v.1.1.2.2.1 v.1.1.2.2.2
  have e6 : s.1 1 6 = f 2 := c.1.2.2.1
  have c57 := sp_57 (s := s) (a := 1) (by decide +kernel) (by rw [e6]; exact v.1.2.1)
  rw [e6] at c57
  have c150 : ∀ t : gx_S, t.1 216 = f → gm_150 t = some (decide (f 2 = 7), t) := fun t et => by
    have := sp_150 (s := t) (by rw [et]; exact v.1.2.1)
    rw [et] at this
    exact this
  have s2 : ∀ y : gx_S, y.1 216 = f → gm_220 x w y = if f 2 = 7 ∧ -1 ≤ x ∧ 0 ≤ w ∧ w ≤ 3 then gm_220_31 100000 x w 0 0 y else some (-1, y) := fun y ey => by
    unfold gm_220
    rw [c150 y ey, Option.bind_some]
    by_cases h7 : f 2 = 7
    · rw [if_neg (fun q => (gbD s).mp q h7), if_pos hx']
      by_cases a : x < -1
      · rw [if_pos a, if_neg (fun q => by have := q.2.1; omega)]
      · rw [if_neg a, if_pos hw']
        show ((gm_130 w 0 3 y).bind _) = _
        rw [in_ y hw (by omega) (by omega), Option.bind_some]
        by_cases b : 0 ≤ w ∧ w ≤ 3
        · rw [if_pos (fun q => (gbD s).mp q b), if_pos (show f 2 = 7 ∧ -1 ≤ x ∧ 0 ≤ w ∧ w ≤ 3 by omega)]
        · rw [if_neg (fun q => q ((gbD s).mpr b)), if_neg (fun q => b q.2.2)]
    · rw [if_pos ((gbD s).mpr h7), if_neg (fun q => h7 q.1)]
  by_cases ok : f 2 = 7 ∧ -1 ≤ x ∧ 0 ≤ w ∧ w ≤ 3
  · obtain ⟨h7, hx1, hw3⟩ := id ok
    obtain ⟨a, a1, a2, a3, a4⟩ := sp_235g (k := 69) (n := 288) 0 s (by decide +kernel) (by omega) (by omega)
    have am : MR a 1 f R C := MR_o (fun k j q1 q2 => a3 k j (by omega)) c.1
    obtain ⟨u, u1, u2, u3, u4⟩ := sl_123 v.1 h7 100000 0 a (by omega) (by omega) am fun p hp => by
      rw [a4, if_pos hp]
      rfl
    have z0 : nps f C 0 288 = 0 := sg_0 fun p _ => if_neg (show ¬ 0 < pcs f C p 0 from Int.lt_irrefl 0)
    rw [z0] at u1
    have c123 : gm_123 s = some (npj f C (R * C) 288, u) := by
      unfold gm_123
      rw [a1, Option.bind_some, sp_58 (MR_cz am v.1), Option.bind_some]
      exact u1
    have uo : ∀ k j, k ≠ 69 → u.1 k j = s.1 k j := fun k j q => by rw [u3 k j q, a3 k j q]
    have kc : KC s u := ⟨fun k j q => uo k j (by omega), fun k j _ => by rw [u2, a2]⟩
    have cu : CV u f R C n pf L tb := CV_o (fun k j q => uo k j (by omega)) c
    have eu : u.1 216 = f := (RV_KC kc r).1
    have nr := npj_r f C (R * C) 288
    have st : gm_96 x w s = if ¬ x = -1 then (if x < npj f C (R * C) 288 then ((gm_124 x u).bind fun q40 => if w = 0 then (if 0 ≤ q40.1 ∧ q40.1 ≤ 2147483647 then some ((q40.1 / 36), q40.2) else none) else (if w = 1 then (if 0 ≤ q40.1 ∧ q40.1 ≤ 2147483647 then (if 0 ≤ (q40.1 / 4) ∧ (q40.1 / 4) ≤ 2147483647 then some (((q40.1 / 4) % 9), q40.2) else none) else none) else (if w = 2 then (if 0 ≤ q40.1 ∧ q40.1 ≤ 2147483647 then some ((q40.1 % 4), q40.2) else none) else (if 0 ≤ q40.1 ∧ q40.1 < 288 then some ((q40.2.1 69 (q40.1).toNat), q40.2) else none)))) else some (-1, u)) else some (npj f C (R * C) 288, u) := by
      unfold gm_96
      rw [c57, Option.bind_some, if_neg (fun q => (gbD s).mp q h7), if_pos hx', if_neg (by omega), if_pos hw', if_neg (by omega), if_pos hw3.2]
      show ((gm_123 s).bind _) = _
      rw [c123, Option.bind_some]
      show (if ¬ x = -1 then (if (-2147483648 ≤ npj f C (R * C) 288 ∧ npj f C (R * C) 288 ≤ 2147483647) then _ else none) else some (npj f C (R * C) 288, u)) = _
      rw [if_pos (show -2147483648 ≤ npj f C (R * C) 288 ∧ npj f C (R * C) 288 ≤ 2147483647 by omega)]
    have s2 := s2 u eu
    rw [if_pos ok] at s2
    by_cases z : x = -1
    · have t2 := sl_220e (w := w) v.1 h7 hx (.inl z) 100000 0 u (by omega) (by omega) eu
      have t2 : gm_220_31 100000 x w 0 0 u = _ := t2
      rw [t2, if_pos z] at s2
      rw [if_neg (fun t => t z)] at st
      exact ⟨_, u, u, st, s2, q_inv kc cu r v (KRw_rf u)⟩
    · rw [if_pos z] at st
      by_cases y : x < npj f C (R * C) 288
      · obtain ⟨p, p1, p2, p3⟩ := sl_124 v.1 h7 hw3 (show 0 ≤ x by omega) u4 100000 0 (by omega) (by omega) (show npj f C (R * C) 0 ≤ x by show (0 : Int) ≤ x; omega) y
        have p2 : gm_124_4 100000 (x - 0) 0 u = some ((p : Int), u) := p2
        rw [Int.sub_zero] at p2
        have p2 : gm_124 x u = some ((p : Int), u) := p2
        have p3 := p3 u eu
        have p3 : gm_220_31 100000 x w 0 0 u = _ := p3
        rw [p3] at s2
        rw [if_pos y, p2, Option.bind_some] at st
        refine ⟨_, u, u, ?_, s2, q_inv kc cu r v (KRw_rf u)⟩
        rw [st]
        by_cases w0 : w = 0
        · rw [if_pos w0, if_pos w0, if_pos (by omega)]
          rfl
        · rw [if_neg w0, if_neg w0]
          by_cases w1 : w = 1
          · rw [if_pos w1, if_pos w1, if_pos (by omega), if_pos (by omega)]
            rfl
          · rw [if_neg w1, if_neg w1]
            by_cases w2 : w = 2
            · rw [if_pos w2, if_pos w2, if_pos (by omega)]
              rfl
            · rw [if_neg w2, if_neg w2, if_pos (by omega)]
              show some (u.1 69 ((p : Int)).toNat, u) = _
              rw [show ((p : Int)).toNat = p by omega, u4 p p1]
      · have t2 := sl_220e (w := w) v.1 h7 hx (.inr (by omega)) 100000 0 u (by omega) (by omega) eu
        have t2 : gm_220_31 100000 x w 0 0 u = _ := t2
        rw [t2, if_neg z] at s2
        rw [if_neg y] at st
        exact ⟨_, u, u, st, s2, q_inv kc cu r v (KRw_rf u)⟩
  · refine ⟨-1, s, s, ?_, (s2 s r.1).trans (if_neg ok), h⟩
    unfold gm_96
    rw [c57, Option.bind_some]
    by_cases h7 : f 2 = 7
    · rw [if_neg (fun q => (gbD s).mp q h7), if_pos hx']
      by_cases a : x < -1
      · rw [if_pos a]
      · rw [if_neg a, if_pos hw']
        by_cases b : w < 0
        · rw [if_pos b]
        · rw [if_neg b, if_neg (fun q => ok ⟨h7, by omega, by omega, q⟩)]
    · rw [if_pos ((gbD s).mpr h7)]
end
