/-! QUERIES: astray -/
def ab_ (x : Int) : Int := if 0 ≤ x then x else 0 - x
theorem sl_105 {a : Nat} {s : gx_S} {P : Nat → Int} {G : Nat → Nat → Int} (ht : fx_oc (a + 12) 7 = true) (hP : ∀ x, x < 8 → s.1 (a + 1) x = P x) (hG : ∀ x y, x < 8 → y < 9 → s.1 (a + 12 + 8) (9 * x + y) = G x y) (hb : ∀ x, x < 8 → -2147483648 ≤ P x - sg (fun r => G r x) 8 ∧ P x - sg (fun r => G r x) 8 ≤ 2147483647) : ∀ (n x : Nat), 8 < n + x → x ≤ 8 → gm_105_37 n a (sg (fun x => ab_ (P x - sg (fun r => G r x) 8)) x) x s = some (sg (fun x => ab_ (P x - sg (fun r => G r x) 8)) 8, s) := by
  intro n
  induction n with
  | zero => intro x h; omega
  | succ n ih =>
    intro x h hx
    rw [gm_105_37, if_pos (by omega)]
    by_cases q : x = 8
    · rw [if_pos (by omega), q]
    · have ce : ((x : Int) + 1) = ((x + 1 : Nat) : Int) := rfl
      have i5 : ((x : Int)).toNat = x := by omega
      have e : sg (fun r => s.1 (a + 12 + 8) (9 * r + x)) 8 = sg (fun r => G r x) 8 := sg_eq fun r hr => hG r x hr (by omega)
      rw [if_neg (by omega), if_pos (by omega), sp_76 ht (show x < 9 by omega), Option.bind_some, i5, hP x (by omega), e, if_pos (hb x (by omega)), ce]
      exact ih (x + 1) (by omega) (by omega)
theorem sl_193_55 {s : gx_S} {P Q : Nat → Int} (hP : ∀ x, x < 8 → s.1 236 x = P x) (hQ : ∀ x, x < 8 → s.1 239 x = Q x) (hb : ∀ x, x < 8 → -2147483648 ≤ P x - Q x ∧ P x - Q x ≤ 2147483647) : ∀ (n x : Nat), 8 < n + x → x ≤ 8 → gm_193_55 n (sg (fun x => ab_ (P x - Q x)) x) x s = some (sg (fun x => ab_ (P x - Q x)) 8, s) := by
  intro n
  induction n with
  | zero => intro x h; omega
  | succ n ih =>
    intro x h hx
    rw [gm_193_55, if_pos (by omega)]
    by_cases q : x = 8
    · rw [if_pos (by omega), q]
    · have ce : ((x : Int) + 1) = ((x + 1 : Nat) : Int) := rfl
      have i5 : ((x : Int)).toNat = x := by omega
      rw [if_neg (by omega), if_pos (by omega), if_pos (by omega), i5, hP x (by omega), hQ x (by omega), if_pos (hb x (by omega)), ce]
      exact ih (x + 1) (by omega) (by omega)
theorem sl_193_23 {g : Nat} : ∀ (n x : Nat) (s : gx_S), 8 < n + x → x ≤ 8 → s.1 215 17 = 8 → ∃ u : gx_S, gm_193_23 n g x s = ((gm_177 g u).bind fun q4 => gm_193_55 100000 0 0 q4) ∧ u.2 = s.2 ∧ (∀ k i, k ≠ 239 → u.1 k i = s.1 k i) ∧ ∀ j, u.1 239 j = if x ≤ j ∧ j < 8 then sg (fun r => s.2 224 (9 * r + j)) 8 else s.1 239 j := by
  intro n
  induction n with
  | zero => intro x s h; omega
  | succ n ih =>
    intro x s h hx e17
    rw [gm_193_23, if_pos (by omega)]
    by_cases q : x = 8
    · rw [if_pos (by omega)]
      exact ⟨s, rfl, rfl, fun _ _ _ => rfl, fun j => by rw [if_neg (by omega)]⟩
    · have ce : ((x : Int) + 1) = ((x + 1 : Nat) : Int) := rfl
      have i5 : ((x : Int)).toNat = x := by omega
      rw [if_neg (by omega), sp_183 (R := 8) e17 (by omega) (show x < 9 by omega), Option.bind_some, if_pos (by omega), i5, ce]
      obtain ⟨u, u1, u2, u3, u4⟩ := ih (x + 1) (gw1 s 239 x (sg (fun r => s.2 224 (9 * r + x)) 8)) (by omega) (by omega) (by rw [gw1_1, if_neg (by omega)]; exact e17)
      refine ⟨u, u1, u2, fun k i h1 => by rw [u3 k i h1, gw1_1, if_neg (fun x => h1 x.1)], fun j => ?_⟩
      rw [u4, gw1_1]
      by_cases y : j = x
      · rw [if_neg (by omega), if_pos ⟨rfl, y⟩, if_pos (by omega), y]
      · by_cases y2 : x + 1 ≤ j ∧ j < 8
        · rw [if_pos y2, if_pos (show x ≤ j ∧ j < 8 by omega)]
          rfl
        · rw [if_neg y2, if_neg (fun t => y t.2), if_neg (show ¬ (x ≤ j ∧ j < 8) by omega)]
theorem inv_astray {s : gx_S} (h : INV s) {x : Int} (hx : i32 x) : two s (gm_105 x) (gm_193 x) := by
  obtain ⟨f, R, C, n, pf, L, tb, c, r, v⟩ := id h
  have hx' := hx
  unfold i32 at hx'
  have e6 : s.1 1 6 = f 2 := c.1.2.2.1
  have c57 := sp_57 (s := s) (a := 1) (by decide +kernel) (by rw [e6]; exact v.1.2.1)
  rw [e6] at c57
  have c150 : ∀ t : gx_S, t.1 216 = f → gm_150 t = some (decide (f 2 = 7), t) := fun t et => by
    have := sp_150 (s := t) (by rw [et]; exact v.1.2.1)
    rw [et] at this
    exact this
  have s2 : ∀ y : gx_S, y.1 216 = f → gm_193 x y = if (0 ≤ x ∧ x < 3) ∧ f 2 = 7 then ((gm_191 x y).bind fun q34 => gm_193_23 100000 x 0 q34) else some (-1, y) := fun y ey => by
    unfold gm_193
    rw [c150 y ey, Option.bind_some]
    by_cases h7 : f 2 = 7
    · rw [if_neg (fun q => (gbD s).mp q h7)]
      show ((gm_148 x y).bind _) = _
      rw [sp_148 y hx, Option.bind_some]
      by_cases a : 0 ≤ x ∧ x ≤ 2
      · rw [if_pos (fun q => (gbD s).mp q a), if_pos ⟨by omega, h7⟩]
      · rw [if_neg (fun q => q ((gbD s).mpr a)), if_neg (fun q => a (by have := q.1; omega))]
    · rw [if_pos ((gbD s).mpr h7), if_neg (fun q => h7 q.2)]
  have s1 : gm_105 x s = if (0 ≤ x ∧ x < 3) ∧ f 2 = 7 then (if 0 ≤ x ∧ x < 3 then ((some (fx_rf 70 (x).toNat)).bind fun v27 => (gm_19 v27 4 s).bind fun q32 => gm_105_37 100000 v27 0 0 q32) else none) else some (-1, s) := by
    unfold gm_105
    rw [sp_114 s hx, Option.bind_some]
    by_cases a : 0 ≤ x ∧ x < 3
    · rw [if_neg (fun q => (gbD s).mp q a)]
      show ((gm_57 1 s).bind _) = _
      rw [c57, Option.bind_some]
      by_cases h7 : f 2 = 7
      · rw [if_pos (fun q => (gbD s).mp q h7), if_pos (show (0 ≤ x ∧ x < 3) ∧ f 2 = 7 from ⟨a, h7⟩)]
      · rw [if_neg (fun q => q ((gbD s).mpr h7)), if_neg (fun q => h7 q.2)]
    · rw [if_pos ((gbD s).mpr a), if_neg (fun q => a q.1)]
  by_cases ok : (0 ≤ x ∧ x < 3) ∧ f 2 = 7
  · obtain ⟨a, h7⟩ := id ok
    obtain ⟨g, rfl⟩ : ∃ g : Nat, x = g := ⟨x.toNat, by omega⟩
    have hg : g < 3 := by omega
    obtain ⟨D, u, u1, u2, u3, u4, u5, u6⟩ := CV_ready (w := 4) (by omega) v.1 h7 hg c
    have u1 : gm_19 (71 + 48 * g) 4 s = some u := u1
    have tm := u4.2.2.2.2.2.1 u5
    have lv := (u4.2.2.2.1 (u6 (by omega)).2).1
    have kc : KC s u := KG_KC (ga_of hg) u3
    have ru := RV_KC kc r
    have eu : u.1 216 = f := ru.1
    obtain ⟨p1, p2⟩ := PA_bk v.1 h7 hg
    obtain ⟨b1, b2⟩ := TB_0 (md := f 3) v.1.2.2.1 p1 (fun _ => p2)
    obtain ⟨l1, l2⟩ := LV_r v.1 hg
    have lb : ∀ x, x < 8 → 0 ≤ LV f R C g x ∧ LV f R C g x ≤ 100000000 := (PA_mv v.1 h7 hg).1.1
    have cb8 : ∀ x, x < 8 → 0 ≤ sg (fun r => TB (f 3) (Pbk f R C g) (Abk f R C g) r x) 8 ∧ sg (fun r => TB (f 3) (Pbk f R C g) (Abk f R C g) r x) 8 ≤ 800000072 := fun x hx => by
      refine ⟨sg_nn fun r hr => (b1 r x hr (by omega)).1, ?_⟩
      exact Int.le_trans (sg_le (g := fun _ => 100000009) fun r hr => by
        have := (b1 r x hr (by omega)).2
        have := (p1.1 r hr).2
        show TB (f 3) (Pbk f R C g) (Abk f R C g) r x ≤ 100000009
        omega) (by decide)
    have hb : ∀ x, x < 8 → -2147483648 ≤ LV f R C g x - sg (fun r => TB (f 3) (Pbk f R C g) (Abk f R C g) r x) 8 ∧ LV f R C g x - sg (fun r => TB (f 3) (Pbk f R C g) (Abk f R C g) r x) 8 ≤ 2147483647 := fun x hx => by
      have := lb x hx
      have := cb8 x hx
      omega
    have t1 := sl_105 (a := 71 + 48 * g) (s := u) (ga_of hg).2.2.2.2.1 lv (fun x y hx hy => ((tm x hx).2.2 y hy).2.2.2) hb 100000 0 (by omega) (by omega)
    have t1 : gm_105_37 100000 (71 + 48 * g) 0 0 u = _ := t1
    obtain ⟨w, w1, w2, w3, w4, w5⟩ := sp_191 (s := u) (R := R) (C := C) (g := g) (by rw [eu]; exact v.1) (by rw [eu]; exact h7) hg ru.2.2.2.2
    rw [eu] at w5
    obtain ⟨y, y1, y2, y3, y4⟩ := sl_193_23 (g := g) 100000 0 w (by omega) (by omega) w3
    have y1 : gm_193_23 100000 g 0 w = _ := y1
    have yK : KRw w y := KRw_of (fun k j q => y3 k j (by omega)) fun k j _ => by rw [y2]
    have Ky := KRw_tr w2 yK
    have ey : y.1 216 = f := (KRw_216 Ky).trans eu
    obtain ⟨z, z1, z2, z3⟩ := sp_177 (s := y) (R := R) (C := C) (g := g) (by rw [ey]; exact v.1) hg
    rw [ey] at z2
    have z39 : ∀ x, x < 8 → z.1 239 x = sg (fun r => TB (f 3) (Pbk f R C g) (Abk f R C g) r x) 8 := fun x hx => by
      rw [z3.1 239 x (by omega), y4, if_pos (by omega)]
      exact sg_eq fun r hr => w5 r x hr (by omega)
    have t2 := sl_193_55 z2 z39 hb 100000 0 (by omega) (by omega)
    have t2 : gm_193_55 100000 0 0 z = _ := t2
    have s2 := s2 u eu
    rw [if_pos ok, w1, Option.bind_some, y1, z1, Option.bind_some, t2] at s2
    rw [if_pos ok, if_pos a, Option.bind_some, vg_ g hg, u1, Option.bind_some, t1] at s1
    exact ⟨_, u, z, s1, s2, q_inv kc u2 r v (KRw_tr Ky (KR_w z3))⟩
  · rw [if_neg ok] at s1
    exact ⟨-1, s, s, s1, (s2 s r.1).trans (if_neg ok), h⟩
