/-! QUERIES: misfit -/
theorem KRw_of4 {s u : gx_S} (h1 : ∀ k j, k ≠ 242 → k ≠ 243 → k ≠ 244 → ¬ (k = 215 ∧ 42 ≤ j) → u.1 k j = s.1 k j) (h2 : ∀ k j, k ≠ 215 → u.2 k j = s.2 k j) : KRw s u := ⟨fun k j q => h1 k j (by omega) (by omega) (by omega) (by omega), fun k j q => h2 k j (by omega), fun S => ⟨fun j hj => by rw [h1 232 j (by omega) (by omega) (by omega) (by omega), h1 233 j (by omega) (by omega) (by omega) (by omega), h1 234 j (by omega) (by omega) (by omega) (by omega), h2 225 j (by omega)]; exact S.1 j hj, fun c hc => by rw [h1 235 c (by omega) (by omega) (by omega) (by omega), h2 229 c (by omega), h2 230 c (by omega), h2 227 c (by omega), h2 228 c (by omega)]; exact S.2.1 c hc, fun k hk => by rw [h2 231 k (by omega)]; exact S.2.2 k hk⟩⟩
/-- the weights as they are -/
def W0 (f : Nat → Int) (g l : Nat) : Int := f (32 + 4 * g + l)
theorem W0_b {f : Nat → Int} {R C g : Nat} (M : MP f R C) (hg : g < 3) : wB9 (W0 f g) := fun l hl => by
  have := M.2.2.2.2.2.1 (4 * g + l) (by omega)
  unfold W0
  rw [Nat.add_assoc]
  exact this
theorem KC_fit {s u : gx_S} (h1 : ∀ a i, ¬ (62 ≤ a ∧ a ≤ 68) → u.1 a i = s.1 a i) (h2 : ∀ a i, a ≠ 62 → u.2 a i = s.2 a i) : KC s u := ⟨fun k j q => h1 k j (by omega), fun k j q => h2 k j (by omega)⟩
theorem CV_fit {s u : gx_S} {f : Nat → Int} {R C n L : Nat} {pf : Nat → Nat → Int} {tb : Nat → Int} (h1 : ∀ a i, ¬ (62 ≤ a ∧ a ≤ 68) → u.1 a i = s.1 a i) (c : CV s f R C n pf L tb) : CV u f R C n pf L tb := CV_o (fun k j q => h1 k j (by omega)) c
theorem inv_misfit {s : gx_S} (h : INV s) {x y : Int} (hx : i32 x) (hy : i32 y) : two s (gm_102 x y) (gm_210 x y) := by
  obtain ⟨f, R, C, n, pf, L, tb, c, r, v⟩ := id h
  have hx' := hx
  have hy' := hy
  unfold i32 at hx' hy'
  have c148 : ∀ t : gx_S, gm_148 x t = _ := fun t => sp_148 t hx
  have c150 : ∀ t : gx_S, t.1 216 = f → gm_150 t = some (decide (f 2 = 7), t) := fun t et => by
    have := sp_150 (s := t) (by rw [et]; exact v.1.2.1)
    rw [et] at this
    exact this
  obtain ⟨c21, c21'⟩ := sp_121 c.1 v.1 hx
  have s1 : gm_102 x y s = if 0 ≤ y ∧ y ≤ 1 then ((gm_121 x s).bind fun q19 => if ¬ (gb q19.1) = 0 then ((gm_12 4 (x * 4) q19.2).bind fun q22 => if (-9223372036854775808 ≤ q22.1 ∧ q22.1 ≤ 9223372036854775807) then (if ¬ q22.1 = 0 then ((gm_14 q22.2).bind fun q26 => (gm_127 q26.1 q22.1 y q26.2).bind fun q28 => some (q28.1, q28.2)) else some ((-1), q22.2)) else none) else gm_102_17 q19.2) else some (-1, s) := by
    unfold gm_102
    rw [if_pos hy']
    by_cases a : y < 0
    · rw [if_pos a, if_neg (show ¬ (0 ≤ y ∧ y ≤ 1) by omega)]
      rfl
    · rw [if_neg a]
      by_cases b : 1 < y
      · rw [if_pos b, if_neg (show ¬ (0 ≤ y ∧ y ≤ 1) by omega)]
        rfl
      · rw [if_neg b, if_pos (show 0 ≤ y ∧ y ≤ 1 by omega)]
  have s2 : ∀ t : gx_S, t.1 216 = f → gm_210 x y t = if ((0 ≤ x ∧ x < 3) ∧ f 2 = 7) ∧ 0 ≤ y ∧ y ≤ 1 then ((gm_205 x t).bind fun q31 => if (-2147483648 ≤ (q31.1 215 42) ∧ (q31.1 215 42) ≤ 2147483647) then (if (q31.1 215 42) = 0 then gm_210_48 q31 else ((gm_209 x q31).bind fun q35 => if ¬ (gb q35.1) = 0 then ((gm_194 (q35.2.2 215 40) (q35.2.2 215 41) y q35.2).bind fun q38 => some (q38.1, q38.2)) else gm_210_48 q35.2)) else none) else some (-1, t) := fun t et => by
    unfold gm_210
    rw [c150 t et, Option.bind_some]
    by_cases b : f 2 = 7
    · rw [if_neg (fun q => (gbD t).mp q b)]
      show ((gm_148 x t).bind _) = _
      rw [c148 t, Option.bind_some]
      by_cases a : 0 ≤ x ∧ x ≤ 2
      · rw [if_neg (fun q => (gbD t).mp q a), if_pos hy', in_ t hy (by omega) (by omega), Option.bind_some]
        by_cases d : 0 ≤ y ∧ y ≤ 1
        · rw [if_pos (fun q => (gbD t).mp q d), if_pos (show ((0 ≤ x ∧ x < 3) ∧ f 2 = 7) ∧ 0 ≤ y ∧ y ≤ 1 from ⟨⟨by omega, b⟩, d⟩)]
        · rw [if_neg (fun q => q ((gbD t).mpr d)), if_neg (fun q : ((0 ≤ x ∧ x < 3) ∧ f 2 = 7) ∧ 0 ≤ y ∧ y ≤ 1 => d q.2)]
          rfl
      · rw [if_pos ((gbD t).mpr a), if_neg (fun q : ((0 ≤ x ∧ x < 3) ∧ f 2 = 7) ∧ 0 ≤ y ∧ y ≤ 1 => a (by have := q.1.1; omega))]
        rfl
    · rw [if_pos ((gbD t).mpr b), if_neg (fun q : ((0 ≤ x ∧ x < 3) ∧ f 2 = 7) ∧ 0 ≤ y ∧ y ≤ 1 => b q.1.2)]
      rfl
  by_cases d : 0 ≤ y ∧ y ≤ 1
  · rw [if_pos d] at s1
    by_cases ok : (0 ≤ x ∧ x < 3) ∧ f 2 = 7
    · obtain ⟨a, h7⟩ := id ok
      obtain ⟨g, rfl⟩ : ∃ g : Nat, x = g := ⟨x.toNat, by omega⟩
      have hg : g < 3 := by omega
      have B := CL_XB v.1 hg
      have W := W0_b v.1 hg
      obtain ⟨u, u1, u2, u3, u4, u5⟩ := c21' g rfl hg h7
      rw [u1, Option.bind_some] at s1
      have ku : ∀ a i, ¬ (62 ≤ a ∧ a ≤ 68) → u.1 a i = s.1 a i := fun a i q => u4 a i (by omega)
      -- the reference on a state behind the class's
      have kr : ∀ w : gx_S, (∀ a i, ¬ (62 ≤ a ∧ a ≤ 68) → w.1 a i = s.1 a i) → (∀ a i, a ≠ 62 → w.2 a i = s.2 a i) → ∃ z : gx_S, KRw w z ∧ z.1 216 = f ∧ gm_210 g y w = (if CP f R C g = 0 then some (-1, z) else ((gm_209 g z).bind fun q35 => if ¬ (gb q35.1) = 0 then ((gm_194 (q35.2.2 215 40) (q35.2.2 215 41) y q35.2).bind fun q38 => some (q38.1, q38.2)) else gm_210_48 q35.2)) ∧ RSw z (CL f R C) (W0 f g) ∧ z.1 215 42 = CP f R C g := fun w w1 w2 => by
        have ew : w.1 216 = f := by funext i; rw [w1 _ _ (by omega), r.1]
        obtain ⟨z, z1, z2, z3, z4, z5⟩ := sp_205 ew v.1 h7 hg
        refine ⟨z, KRw_of4 (fun k j q1 q2 _ q3 => z5 k j q1 q2 (by omega)) (fun k j _ => by rw [z4]), by funext i; rw [z5 _ _ (by decide) (by decide) (by omega), ew], ?_, z2, z3⟩
        rw [s2 w ew, if_pos ⟨ok, d⟩, z1, Option.bind_some, z3, if_pos (by have := B.2.2; omega)]
        rfl
      by_cases p0 : 0 < CP f R C g
      · rw [if_pos (fun q => (gbD u).mp q p0)] at s1
        have i4 : (g : Int) * 4 = ((4 * g : Nat) : Int) := by omega
        obtain ⟨w, w1, w2, w3, w4⟩ := sp_12 (k := 4) (a := 4 * g) (m := 12) (w := W0 f g) u2 B (by decide +kernel) (by omega) (by decide) W fun l hl => by
          rw [u4 _ _ (by omega)]
          have := c.1.2.2.2.2.2.2.1 (4 * g + l) (by omega)
          rw [show (1 : Nat) + 3 = 4 from rfl] at this
          rw [this]
          unfold W0
          rw [Nat.add_assoc]
        have s1 : gm_102 g y s = ((gm_12 4 ((g : Int) * 4) u).bind fun q22 => if (-9223372036854775808 ≤ q22.1 ∧ q22.1 ≤ 9223372036854775807) then (if ¬ q22.1 = 0 then ((gm_14 q22.2).bind fun q26 => (gm_127 q26.1 q22.1 y q26.2).bind fun q28 => some (q28.1, q28.2)) else some ((-1), q22.2)) else none) := s1
        have sr := SA_r B W
        have mr := MS_r B W
        rw [i4, w1, Option.bind_some] at s1
        have kw1 : ∀ a i, ¬ (62 ≤ a ∧ a ≤ 68) → w.1 a i = s.1 a i := fun a i q => (w3 a i (by omega)).trans (ku a i q)
        have kw2 : ∀ a i, a ≠ 62 → w.2 a i = s.2 a i := fun a i q => (w4 a i (by omega)).trans (u5 a i q)
        obtain ⟨z, z1, z2, z3, z4, z5⟩ := kr w kw1 kw2
        obtain ⟨t, t1, t2, t3, t4, t5⟩ := sp_209 hg B W z4 z5 fun q hq => by rw [z2]; rfl
        rw [if_neg (by omega), t1, Option.bind_some] at z3
        dsimp only at s1
        rw [if_pos (by omega)] at s1
        have kt : KRw z t := KRw_of4 (fun k j _ _ _ _ => by rw [t2]) fun k j q => t5 k j (by omega)
        have fin : INV t := q_inv (KC_fit kw1 kw2) (CV_fit kw1 c) r v (KRw_tr z1 kt)
        by_cases s0 : SA (CL f R C) (W0 f g) = 0
        · rw [if_neg (fun q => q s0)] at s1
          rw [if_neg (fun q => q ((gbD t).mpr (by omega)))] at z3
          exact ⟨-1, w, t, s1, z3, fin⟩
        · have F' : FS w (CL f R C) (Cc f g) (CP f R C g) := FS_o (fun b i q => w3 b i (by omega)) (w4 _ _ (by omega)) u2
          rw [if_pos s0, sp_14 F' B W w2, Option.bind_some] at s1
          rw [if_pos (fun q => (gbD t).mp q (by omega))] at z3
          have z3 : gm_210 g y w = ((gm_194 (t.2 215 40) (t.2 215 41) y t).bind fun q38 => some (q38.1, q38.2)) := z3
          rw [t3, t4] at z3
          have s1 : gm_102 g y s = ((gm_127 (MS (CL f R C) (Cc f g) (CP f R C g) (W0 f g)) (SA (CL f R C) (W0 f g)) y w).bind fun q28 => some (q28.1, q28.2)) := s1
          obtain ⟨p, hp⟩ : ∃ p : Nat, MS (CL f R C) (Cc f g) (CP f R C g) (W0 f g) = p := ⟨_, (Int.toNat_of_nonneg mr.1).symm⟩
          obtain ⟨b, hb⟩ : ∃ b : Nat, SA (CL f R C) (W0 f g) = b := ⟨_, (Int.toNat_of_nonneg sr.1).symm⟩
          rw [hp, hb] at s1 z3
          rw [hp] at mr
          rw [hb] at sr s0
          rw [sp_127 w (by omega) (by omega) (by omega) hy, Option.bind_some] at s1
          rw [sp_194 t (by omega) (by omega) (by omega) hy, Option.bind_some] at z3
          exact ⟨_, w, t, s1, z3, fin⟩
      · have pn : CP f R C g = 0 := by have := B.2.2; omega
        rw [if_neg (fun q => q ((gbD u).mpr p0))] at s1
        obtain ⟨z, z1, z2, z3, z4, z5⟩ := kr u ku u5
        rw [if_pos pn] at z3
        exact ⟨-1, u, z, s1, z3, q_inv (KC_fit ku u5) (CV_fit ku c) r v z1⟩
    · rw [c21 ok, Option.bind_some, if_neg (fun q => q rfl)] at s1
      exact ⟨-1, s, s, s1, (s2 s r.1).trans (if_neg fun q => ok q.1), h⟩
  · rw [if_neg d] at s1
    exact ⟨-1, s, s, s1, (s2 s r.1).trans (if_neg fun q => d q.2), h⟩
