/-! QUERIES: coarse -/
def cos_ (f : Nat → Int) (R C g : Nat) (d : Int) (n : Nat) : Int := sg (fun y => if dsc f y = d then sg (fun x => GV f R C g x y) 8 else 0) n
theorem sl_101 {f : Nat → Int} {R C g a : Nat} {d : Int} {s : gx_S} (M : MP f R C) (m : MR s 1 f R C) (ht : fx_oc (a + 3) 7 = true) (hd : i32 d) (hG : ∀ x y, x < 8 → y < 9 → s.1 (a + 3 + 8) (9 * x + y) = GV f R C g x y) : ∀ (n y : Nat), 8 < n + y → y ≤ 8 → gm_101_79 n d a (cos_ f R C g d y) y s = some (cos_ f R C g d 8, s) := by
  unfold i32 at hd
  intro n
  induction n with
  | zero => intro y h; omega
  | succ n ih =>
    intro y h hy
    rw [gm_101_79, if_pos (by omega)]
    by_cases q : y = 8
    · rw [if_pos (by omega), q]
    · have ce : ((y : Int) + 1) = ((y + 1 : Nat) : Int) := rfl
      have i5 : ((y : Int)).toNat = y := by omega
      have dr := dsc_r M (show y < 9 by omega)
      have e5 : s.1 5 y = dsc f y := by
        have := m.2.2.2.2.2.2.2.1 y (by omega)
        rw [show (1 : Nat) + 4 = 5 from rfl] at this
        rw [this, (dr.2.2 (by omega)).2]
      have e : sg (fun x => s.1 (a + 3 + 8) (9 * x + y)) 8 = sg (fun x => GV f R C g x y) 8 := sg_eq fun x hx => hG x y hx (by omega)
      rw [if_neg (by omega), if_pos (by omega), i5, e5, if_pos (by omega), if_pos hd]
      unfold gm_101_115
      by_cases z : dsc f y = d
      · rw [if_neg (fun t => t z), sp_76 ht (show y < 9 by omega), Option.bind_some, e, ce]
        have st : cos_ f R C g d y + sg (fun x => GV f R C g x y) 8 = cos_ f R C g d (y + 1) := by
          show _ = cos_ f R C g d y + (if dsc f y = d then sg (fun x => GV f R C g x y) 8 else 0)
          rw [if_pos z]
        show gm_101_79 n d a (cos_ f R C g d y + sg (fun x => GV f R C g x y) 8) ((y + 1 : Nat) : Int) s = _
        rw [st]
        exact ih (y + 1) (by omega) (by omega)
      · rw [if_pos z, ce]
        have st : cos_ f R C g d (y + 1) = cos_ f R C g d y := by
          show cos_ f R C g d y + (if dsc f y = d then sg (fun x => GV f R C g x y) 8 else 0) = _
          rw [if_neg z, Int.add_zero]
        rw [← st]
        exact ih (y + 1) (by omega) (by omega)
theorem sl_188 {f : Nat → Int} {R C g : Nat} {d : Int} {s : gx_S} (M : MP f R C) (ef : s.1 216 = f) (h17 : s.1 215 17 = 8) (hd : i32 d) (hG : ∀ x y, x < 8 → y < 9 → s.2 224 (9 * x + y) = GV f R C g x y) : ∀ (n y : Nat), 8 < n + y → y ≤ 8 → gm_188_73 n d (cos_ f R C g d y) y s = some (cos_ f R C g d 8, s) := by
  unfold i32 at hd
  intro n
  induction n with
  | zero => intro y h; omega
  | succ n ih =>
    intro y h hy
    rw [gm_188_73, if_pos (by omega)]
    by_cases q : y = 8
    · rw [if_pos (by omega), q]
    · have ce : ((y : Int) + 1) = ((y + 1 : Nat) : Int) := rfl
      have dr := dsc_r M (show y < 9 by omega)
      have e : sg (fun x => s.2 224 (9 * x + y)) 8 = sg (fun x => GV f R C g x y) 8 := sg_eq fun x hx => hG x y hx (by omega)
      rw [if_neg (by omega), sp_186 ef (show y < 9 by omega), Option.bind_some, if_pos (by omega), if_pos hd]
      unfold gm_188_102
      by_cases z : dsc f y = d
      · rw [if_neg (fun t => t z), sp_183 (R := 8) h17 (by omega) (show y < 9 by omega), Option.bind_some, e, ce]
        have st : cos_ f R C g d y + sg (fun x => GV f R C g x y) 8 = cos_ f R C g d (y + 1) := by
          show _ = cos_ f R C g d y + (if dsc f y = d then sg (fun x => GV f R C g x y) 8 else 0)
          rw [if_pos z]
        show gm_188_73 n d (cos_ f R C g d y + sg (fun x => GV f R C g x y) 8) ((y + 1 : Nat) : Int) s = _
        rw [st]
        exact ih (y + 1) (by omega) (by omega)
      · rw [if_pos z, ce]
        have st : cos_ f R C g d (y + 1) = cos_ f R C g d y + 0 := by
          show cos_ f R C g d y + (if dsc f y = d then sg (fun x => GV f R C g x y) 8 else 0) = _
          rw [if_neg z]
        rw [← st]
        exact ih (y + 1) (by omega) (by omega)
/-- the coarse table on the reference's side -/
theorem sp_187f {s : gx_S} {R C g : Nat} (M : MP (s.1 216) R C) (h7 : s.1 216 2 = 7) (hg : g < 3) (S : SC s) : ∃ u w : gx_S, gm_187 g s = some u ∧ gm_173 u = some w ∧ KRw s w ∧ w.1 215 17 = 8 ∧ w.1 215 18 = 5 ∧ ∀ x d, x < 8 → d < 5 → w.2 224 (9 * x + d) = GC_ (s.1 216) R C g x d := by
  obtain ⟨u, u1, u2, u3, u4, u5, u6⟩ := sp_187 M h7 hg
  obtain ⟨p1, p2, p3, p4⟩ := PA_co M h7 hg
  obtain ⟨w, w1, w2, w3, w4, w5, w6⟩ := TB_ref (md := s.1 216 3) (r := u) (R := 8) (m := 5) M.2.2.1 p1 (u2.2.2 S) u3 u4 (by omega) (by omega) (fun _ => p2) (by rw [KRw_216 u2]) (fun x hx => u5 x hx) (fun x y hx hy => u6 x y hx hy) (fun x y hx hy hn => p3 x y hy (by omega))
  refine ⟨u, w, u1, w1, KRw_tr u2 (KR_w (KR_rc w3 w4)), ?_, ?_, fun x d hx hd => w2 x d hx hd⟩
  · rw [w3.1 215 17 (by decide) (by decide) (by decide) (by decide) (by decide)]
    exact u3
  · rw [w3.1 215 18 (by decide) (by decide) (by decide) (by decide) (by decide)]
    exact u4
theorem inv_coarse {s : gx_S} (h : INV s) {x d t : Int} (hx : i32 x) (hd : i32 d) (ht : i32 t) : two s (gm_101 x d t) (gm_188 x d t) := by
  obtain ⟨f, R, C, n, pf, L, tb, c, r, v⟩ := id h
  have hx' := hx
  have hd' := hd
  have ht' := ht
  unfold i32 at hx' hd' ht'
  have e6 : s.1 1 6 = f 2 := c.1.2.2.1
  have c57 := sp_57 (s := s) (a := 1) (by decide +kernel) (by rw [e6]; exact v.1.2.1)
  rw [e6] at c57
  have c150 : ∀ t : gx_S, t.1 216 = f → gm_150 t = some (decide (f 2 = 7), t) := fun t et => by
    have := sp_150 (s := t) (by rw [et]; exact v.1.2.1)
    rw [et] at this
    exact this
  have s1 : gm_101 x d t s = if ((0 ≤ x ∧ x < 3) ∧ f 2 = 7) ∧ (0 ≤ d ∧ d < 4) ∧ (0 ≤ t ∧ t ≤ 1) then (if 0 ≤ x ∧ x < 3 then ((some (fx_rf 70 (x).toNat)).bind fun v46 => if ¬ t = 1 then ((gm_19 v46 2 s).bind fun q52 => gm_101_79 100000 d v46 0 0 q52) else ((gm_19 v46 8 s).bind fun q54 => (gm_76 (v46 + 21) d q54).bind fun q56 => some (q56.1, q56.2))) else none) else some (-1, s) := by
    unfold gm_101
    rw [sp_114 s hx, Option.bind_some]
    by_cases a : 0 ≤ x ∧ x < 3
    · rw [if_neg (fun q => (gbD s).mp q a)]
      show ((gm_57 1 s).bind _) = _
      rw [c57, Option.bind_some]
      by_cases h7 : f 2 = 7
      · rw [if_neg (fun q => (gbD s).mp q h7)]
        show ((gm_117 d s).bind _) = _
        rw [sp_117 s hd, Option.bind_some]
        by_cases b : 0 ≤ d ∧ d < 4
        · rw [if_neg (fun q => (gbD s).mp q b), if_pos ht']
          by_cases e : t < 0
          · rw [if_pos e, if_neg (show ¬ (((0 ≤ x ∧ x < 3) ∧ f 2 = 7) ∧ (0 ≤ d ∧ d < 4) ∧ (0 ≤ t ∧ t ≤ 1)) by omega)]
          · rw [if_neg e]
            by_cases e2 : t ≤ 1
            · rw [if_pos e2, if_pos (show ((0 ≤ x ∧ x < 3) ∧ f 2 = 7) ∧ (0 ≤ d ∧ d < 4) ∧ (0 ≤ t ∧ t ≤ 1) by omega)]
            · rw [if_neg e2, if_neg (show ¬ (((0 ≤ x ∧ x < 3) ∧ f 2 = 7) ∧ (0 ≤ d ∧ d < 4) ∧ (0 ≤ t ∧ t ≤ 1)) by omega)]
        · rw [if_pos ((gbD s).mpr b), if_neg (show ¬ (((0 ≤ x ∧ x < 3) ∧ f 2 = 7) ∧ (0 ≤ d ∧ d < 4) ∧ (0 ≤ t ∧ t ≤ 1)) from fun q => b q.2.1)]
      · rw [if_pos ((gbD s).mpr h7), if_neg (show ¬ (((0 ≤ x ∧ x < 3) ∧ f 2 = 7) ∧ (0 ≤ d ∧ d < 4) ∧ (0 ≤ t ∧ t ≤ 1)) from fun q => h7 q.1.2)]
    · rw [if_pos ((gbD s).mpr a), if_neg (show ¬ (((0 ≤ x ∧ x < 3) ∧ f 2 = 7) ∧ (0 ≤ d ∧ d < 4) ∧ (0 ≤ t ∧ t ≤ 1)) from fun q => a q.1.1)]
  have s2 : ∀ y : gx_S, y.1 216 = f → gm_188 x d t y = if ((0 ≤ x ∧ x < 3) ∧ f 2 = 7) ∧ (0 ≤ d ∧ d < 4) ∧ (0 ≤ t ∧ t ≤ 1) then (if ¬ t = 1 then ((gm_181 x y).bind fun q51 => (gm_173 q51).bind fun q53 => gm_188_73 100000 d 0 0 q53) else ((gm_187 x y).bind fun q55 => (gm_173 q55).bind fun q57 => (gm_183 d q57).bind fun q59 => some (q59.1, q59.2))) else some (-1, y) := fun y ey => by
    unfold gm_188
    rw [c150 y ey, Option.bind_some]
    by_cases h7 : f 2 = 7
    · rw [if_neg (fun q => (gbD s).mp q h7)]
      show ((gm_148 x y).bind _) = _
      rw [sp_148 y hx, Option.bind_some]
      by_cases a : 0 ≤ x ∧ x ≤ 2
      · rw [if_neg (fun q => (gbD s).mp q a), if_pos hd', in_ y hd (by omega) (by omega), Option.bind_some]
        by_cases b : 0 ≤ d ∧ d ≤ 3
        · rw [if_neg (fun q => (gbD s).mp q b), if_pos ht', in_ y ht (by omega) (by omega), Option.bind_some]
          by_cases e : 0 ≤ t ∧ t ≤ 1
          · rw [if_pos (fun q => (gbD s).mp q e), if_pos (show ((0 ≤ x ∧ x < 3) ∧ f 2 = 7) ∧ (0 ≤ d ∧ d < 4) ∧ (0 ≤ t ∧ t ≤ 1) by omega)]
          · rw [if_neg (fun q => q ((gbD s).mpr e)), if_neg (show ¬ (((0 ≤ x ∧ x < 3) ∧ f 2 = 7) ∧ (0 ≤ d ∧ d < 4) ∧ (0 ≤ t ∧ t ≤ 1)) from fun q => e q.2.2)]
        · rw [if_pos ((gbD s).mpr b), if_neg (show ¬ (((0 ≤ x ∧ x < 3) ∧ f 2 = 7) ∧ (0 ≤ d ∧ d < 4) ∧ (0 ≤ t ∧ t ≤ 1)) by omega)]
      · rw [if_pos ((gbD s).mpr a), if_neg (show ¬ (((0 ≤ x ∧ x < 3) ∧ f 2 = 7) ∧ (0 ≤ d ∧ d < 4) ∧ (0 ≤ t ∧ t ≤ 1)) by omega)]
    · rw [if_pos ((gbD s).mpr h7), if_neg (show ¬ (((0 ≤ x ∧ x < 3) ∧ f 2 = 7) ∧ (0 ≤ d ∧ d < 4) ∧ (0 ≤ t ∧ t ≤ 1)) from fun q => h7 q.1.2)]
  by_cases ok : ((0 ≤ x ∧ x < 3) ∧ f 2 = 7) ∧ (0 ≤ d ∧ d < 4) ∧ (0 ≤ t ∧ t ≤ 1)
  · obtain ⟨⟨a, h7⟩, b, e⟩ := id ok
    obtain ⟨g, rfl⟩ : ∃ g : Nat, x = g := ⟨x.toNat, by omega⟩
    have hg : g < 3 := by omega
    rw [if_pos ok, if_pos a, Option.bind_some, vg_ g hg] at s1
    by_cases t1 : t = 1
    · obtain ⟨d, rfl⟩ : ∃ d' : Nat, d = d' := ⟨d.toNat, by omega⟩
      obtain ⟨D, u, u1, u2, u3, u4, u5, u6⟩ := CV_ready (w := 8) (by omega) v.1 h7 hg c
      have u1 : gm_19 (71 + 48 * g) 8 s = some u := u1
      have tm := (u4.2.2.2.2.2.2.1 u5).2
      have kc : KC s u := KG_KC (ga_of hg) u3
      have ru := RV_KC kc r
      have eu : u.1 216 = f := ru.1
      obtain ⟨p, w, p1, p2, p3, p4, p5, p6⟩ := sp_187f (s := u) (R := R) (C := C) (g := g) (by rw [eu]; exact v.1) (by rw [eu]; exact h7) hg ru.2.2.2.2
      rw [eu] at p6
      have s2 := s2 u eu
      rw [if_pos ok, if_neg (fun q => q t1), p1, Option.bind_some, p2, Option.bind_some, sp_183 (R := 8) p4 (by omega) (show d < 9 by omega), Option.bind_some] at s2
      rw [if_neg (fun q => q t1), u1, Option.bind_some, sp_76 (ga_of hg).2.2.2.2.2.1 (show d < 9 by omega), Option.bind_some] at s1
      have e : sg (fun x => w.2 224 (9 * x + d)) 8 = sg (fun x => u.1 (71 + 48 * g + 21 + 8) (9 * x + d)) 8 := sg_eq fun x hx => by
        rw [p6 x d hx (by omega), ((tm x hx).2.2 d (by omega)).2.2.2]
        rfl
      have s2 : gm_188 g d t u = some (sg (fun x => w.2 224 (9 * x + d)) 8, w) := s2
      rw [e] at s2
      exact ⟨_, u, w, s1, s2, q_inv kc u2 r v p3⟩
    · obtain ⟨D, u, u1, u2, u3, u4, u5, u6⟩ := CV_ready (w := 2) (by omega) v.1 h7 hg c
      have u1 : gm_19 (71 + 48 * g) 2 s = some u := u1
      have tm := (u4.2.2.2.2.1 u5).2.1
      have kc : KC s u := KG_KC (ga_of hg) u3
      have ru := RV_KC kc r
      have eu : u.1 216 = f := ru.1
      obtain ⟨p, w, p1, p2, p3, p4, p5, p6, p7⟩ := sp_181f (s := u) (R := R) (C := C) (g := g) (by rw [eu]; exact v.1) (by rw [eu]; exact h7) hg ru.2.2.2.2
      have wg : ∀ x y, x < 8 → y < 9 → w.2 224 (9 * x + y) = GV f R C g x y := fun x y hx hy => by
        have := ((p7 x hx).2.2 y hy).2
        rw [eu] at this
        exact this
      have t1' := sl_101 (a := 71 + 48 * g) v.1 u2.1 (ga_of hg).2.2.2.1 hd (fun x y hx hy => ((tm x hx).2.2 y hy).2.2.2) 100000 0 (by omega) (by omega)
      have t1' : gm_101_79 100000 d (71 + 48 * g) 0 0 u = _ := t1'
      have t2 := sl_188 v.1 ((KR_216 p4).trans eu) p5 hd wg 100000 0 (by omega) (by omega)
      have t2 : gm_188_73 100000 d 0 0 w = _ := t2
      have s2 := s2 u eu
      rw [if_pos ok, if_pos t1, p1, Option.bind_some, p2, Option.bind_some, t2] at s2
      rw [if_pos t1, u1, Option.bind_some, t1'] at s1
      exact ⟨_, u, w, s1, s2, q_inv kc u2 r v (KR_w p4)⟩
  · rw [if_neg ok] at s1
    exact ⟨-1, s, s, s1, (s2 s r.1).trans (if_neg ok), h⟩
