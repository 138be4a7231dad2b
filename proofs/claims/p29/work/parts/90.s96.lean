/-! QUERIES: count, whole -/
/-- those moved, or left aside, in all groups up to n -/
def mva (f : Nat → Int) (R C n : Nat) : Int := sg (fun g => sg (fun z => f (5 + 9 * g + z)) 9 - ASf f R C g) n
def asa (f : Nat → Int) (R C n : Nat) : Int := sg (fun g => ASf f R C g) n
theorem sl_126 {f : Nat → Int} {R C n L : Nat} {pf : Nat → Nat → Int} {tb : Nat → Int} (M : MP f R C) (h7 : f 2 = 7) (b : Bool) : ∀ (m g : Nat) (s : gx_S), 3 < m + g → g ≤ 3 → CV s f R C n pf L tb → ∃ u : gx_S, gm_126_4 m (gb b) (if b = true then mva f R C g else asa f R C g) g s = some ((if b = true then mva f R C 3 else asa f R C 3), u) ∧ CV u f R C n pf L tb ∧ KC s u := by
  intro m
  induction m with
  | zero => intro g s h; omega
  | succ m ih =>
    intro g s h hg c
    rw [gm_126_4, if_pos (by omega)]
    by_cases q : g = 3
    · rw [if_pos (by omega), q]
      exact ⟨s, rfl, c, KC_rfl s⟩
    · have e6 : s.1 1 6 = f 2 := c.1.2.2.1
      have c57 := sp_57 (s := s) (a := 1) (by decide +kernel) (by rw [e6]; exact M.2.1)
      rw [e6] at c57
      have ce : ((g : Int) + 1) = ((g + 1 : Nat) : Int) := rfl
      obtain ⟨D, t, t1, t2, t3, t4, t5⟩ := CV_20 M (show g < 3 by omega) c
      obtain ⟨l1, l2, l3⟩ := t4.2.2.2.1 t5
      have kt : KC s t := KG_KC (ga_of (by omega)) t3
      rw [if_neg (by omega), c57, Option.bind_some, if_neg (fun t => (gbD s).mp t h7), if_pos (by omega), Option.bind_some, vg_ g (by omega)]
      show ∃ u : gx_S, ((gm_20 (71 + 48 * g) s).bind _) = _ ∧ _
      rw [t1, Option.bind_some]
      cases b with
      | false =>
        rw [if_pos (by decide), if_pos (show gb false = 0 from rfl)]
        unfold gm_126_59
        rw [l3, ce]
        have st : (if false = true then mva f R C g else asa f R C g) + ASf f R C g = (if false = true then mva f R C (g + 1) else asa f R C (g + 1)) := rfl
        rw [st]
        obtain ⟨u, u1, u2, u3⟩ := ih (g + 1) t (by omega) (by omega) t2
        exact ⟨u, u1, u2, KC_tr kt u3⟩
      | true =>
        rw [if_pos (by decide), if_neg (show ¬ gb true = 0 by decide), sp_66g t2.1 (show g < 3 by omega), Option.bind_some]
        unfold gm_126_59
        show ∃ u : gx_S, gm_126_4 m (gb true) ((if true = true then mva f R C g else asa f R C g) + (sg (fun z => f (5 + 9 * g + z)) 9 - (t.1 (71 + 48 * g) 7))) ((g : Int) + 1) t = _ ∧ _
        rw [l3, ce]
        have st : (if true = true then mva f R C g else asa f R C g) + (sg (fun z => f (5 + 9 * g + z)) 9 - ASf f R C g) = (if true = true then mva f R C (g + 1) else asa f R C (g + 1)) := rfl
        rw [st]
        obtain ⟨u, u1, u2, u3⟩ := ih (g + 1) t (by omega) (by omega) t2
        exact ⟨u, u1, u2, KC_tr kt u3⟩
theorem sl_224 {f : Nat → Int} {R C : Nat} (M : MP f R C) (h7 : f 2 = 7) : ∀ (m g : Nat) (s : gx_S), 3 < m + g → g ≤ 3 → s.1 216 = f → SC s → ∃ u : gx_S, gm_224_4 m (mva f R C g) g s = some (mva f R C 3, u) ∧ KRw s u := by
  intro m
  induction m with
  | zero => intro g s h; omega
  | succ m ih =>
    intro g s h hg ef S
    rw [gm_224_4, if_pos (by omega)]
    by_cases q : g = 3
    · rw [if_pos (by omega), q]
      exact ⟨s, rfl, KRw_rf s⟩
    · have ce : ((g : Int) + 1) = ((g + 1 : Nat) : Int) := rfl
      have c150 : gm_150 s = some (decide (f 2 = 7), s) := by
        have := sp_150 (s := s) (by rw [ef]; exact M.2.1)
        rw [ef] at this
        exact this
      obtain ⟨a, w, a1, w1, a2, w2, w3, w4, w5⟩ := sp_181f (s := s) (R := R) (C := C) (g := g) (by rw [ef]; exact M) (by rw [ef]; exact h7) (by omega) S
      rw [if_neg (by omega), c150, Option.bind_some, if_neg (fun t => (gbD s).mp t h7)]
      show ∃ u : gx_S, ((gm_181 g s).bind _) = _ ∧ _
      rw [a1, Option.bind_some, w1, Option.bind_some, sp_184 (R := 8) (m := 9) w3 w4 (by omega) (by omega), Option.bind_some]
      have e : sg (fun x => sg (fun y => w.2 224 (9 * x + y)) 9) 8 = sg (fun z => f (5 + 9 * g + z)) 9 - ASf f R C g := by
        rw [← GV_all M h7 (show g < 3 by omega)]
        exact sg_eq fun x hx => sg_eq fun y hy => by
          have := ((w5 x hx).2.2 y hy).2
          rw [ef] at this
          exact this
      show ∃ u : gx_S, gm_224_4 m (mva f R C g + sg (fun x => sg (fun y => w.2 224 (9 * x + y)) 9) 8) ((g : Int) + 1) w = _ ∧ _
      rw [e, ce]
      obtain ⟨u, u1, u2⟩ := ih (g + 1) w (by omega) (by omega) ((KR_216 w2).trans ef) (w2.2.2 S)
      exact ⟨u, u1, KRw_tr (KR_w w2) u2⟩
theorem sl_225 {f : Nat → Int} {R C : Nat} {s : gx_S} (M : MP f R C) (h7 : f 2 = 7) (ef : s.1 216 = f) : ∀ (m g : Nat), 3 < m + g → g ≤ 3 → gm_225_4 m (asa f R C g) g s = some (asa f R C 3, s) := by
  intro m
  induction m with
  | zero => intro g h; omega
  | succ m ih =>
    intro g h hg
    rw [gm_225_4, if_pos (by omega)]
    by_cases q : g = 3
    · rw [if_pos (by omega), q]
      rfl
    · have ce : ((g : Int) + 1) = ((g + 1 : Nat) : Int) := rfl
      have c150 : gm_150 s = some (decide (f 2 = 7), s) := by
        have := sp_150 (s := s) (by rw [ef]; exact M.2.1)
        rw [ef] at this
        exact this
      have c176 := sp_176 (s := s) (R := R) (C := C) (g := g) (by rw [ef]; exact M) (by omega)
      rw [ef] at c176
      rw [if_neg (by omega), c150, Option.bind_some, if_neg (fun t => (gbD s).mp t h7)]
      show ((gm_176 g s).bind _) = _
      rw [c176, Option.bind_some, ce]
      exact ih (g + 1) (by omega) (by omega)
theorem inv_count {s : gx_S} (h : INV s) {x : Int} (hx : i32 x) : two s (gm_111 x) (gm_226 x) := by
  obtain ⟨f, R, C, n, pf, L, tb, c, r, v⟩ := id h
  have hx' := hx
  unfold i32 at hx'
  have ef : s.1 216 = f := r.1
  have m := c.1
  have Ms : MP (s.1 216) R C := by rw [ef]; exact v.1
  have e6 : s.1 1 6 = f 2 := c.1.2.2.1
  have c57 := sp_57 (s := s) (a := 1) (by decide +kernel) (by rw [e6]; exact v.1.2.1)
  rw [e6] at c57
  have c150 : gm_150 s = some (decide (f 2 = 7), s) := by
    have := sp_150 (s := s) (by rw [ef]; exact v.1.2.1)
    rw [ef] at this
    exact this
  unfold two gm_111 gm_226
  rw [if_pos hx']
  by_cases x0 : x = 0
  · rw [if_pos x0, sp_58 (MR_cz m v.1), Option.bind_some]
    refine ⟨_, s, s, rfl, ?_, h⟩
    rw [if_pos hx', if_pos x0]
    unfold gm_151
    rw [Option.bind_some, ef, v.1.1.1, v.1.1.2.1, Int.natCast_mul]
  · rw [if_neg x0]
    by_cases x1 : x = 1
    · rw [if_pos x1]
      refine ⟨_, s, s, rfl, ?_, h⟩
      rw [if_pos hx', if_neg x0, if_pos x1, ef, m.1]
    · rw [if_neg x1]
      by_cases x2 : x = 2
      · have c63 := sp_63 m v.1 0 8 (by omega) (by omega)
        have c154 := sp_154 Ms 0 8 (by omega) (by omega)
        rw [ef] at c154
        have c63 : gm_63 1 0 8 s = _ := c63
        have c154 : gm_154 0 8 s = _ := c154
        rw [if_pos x2, c63, Option.bind_some]
        refine ⟨_, s, s, rfl, ?_, h⟩
        rw [if_pos hx', if_neg x0, if_neg x1, if_pos x2, c154, Option.bind_some]
      · rw [if_neg x2]
        by_cases x3 : x = 3
        · have c63 := sp_63 m v.1 1 8 (by omega) (by omega)
          have c154 := sp_154 Ms 1 8 (by omega) (by omega)
          rw [ef] at c154
          have c63 : gm_63 1 1 8 s = _ := c63
          have c154 : gm_154 1 8 s = _ := c154
          rw [if_pos x3, c63, Option.bind_some]
          refine ⟨_, s, s, rfl, ?_, h⟩
          rw [if_pos hx', if_neg x0, if_neg x1, if_neg x2, if_pos x3, c154, Option.bind_some]
        · rw [if_neg x3]
          by_cases x4 : x = 4
          · have c63 := sp_63 m v.1 2 4 (by omega) (by omega)
            have c154 := sp_154 Ms 2 4 (by omega) (by omega)
            rw [ef] at c154
            have c63 : gm_63 1 2 4 s = _ := c63
            have c154 : gm_154 2 4 s = _ := c154
            rw [if_pos x4, c63, Option.bind_some]
            refine ⟨_, s, s, rfl, ?_, h⟩
            rw [if_pos hx', if_neg x0, if_neg x1, if_neg x2, if_neg x3, if_pos x4, c154, Option.bind_some]
          · rw [if_neg x4]
            by_cases x5 : x = 5
            · rw [if_pos x5]
              refine ⟨_, s, s, rfl, ?_, h⟩
              rw [if_pos hx', if_neg x0, if_neg x1, if_neg x2, if_neg x3, if_neg x4, if_pos x5, ef, m.2.2.2.1]
            · rw [if_neg x5]
              by_cases x6 : x = 6
              · rw [if_pos x6]
                refine ⟨_, s, s, rfl, ?_, h⟩
                rw [if_pos hx', if_neg x0, if_neg x1, if_neg x2, if_neg x3, if_neg x4, if_neg x5, if_pos x6, ef, m.2.2.2.2.1]
              · rw [if_neg x6]
                by_cases x7 : x = 7
                · rw [if_pos x7]
                  refine ⟨_, s, s, rfl, ?_, h⟩
                  rw [if_pos hx', if_neg x0, if_neg x1, if_neg x2, if_neg x3, if_neg x4, if_neg x5, if_neg x6, if_pos x7, ef, e6]
                · rw [if_neg x7]
                  by_cases x8 : x = 8
                  · obtain ⟨_, p, _, _, p2, _⟩ := c.2.2.1
                    rw [if_pos x8]
                    refine ⟨_, s, s, rfl, ?_, h⟩
                    rw [if_pos hx', if_neg x0, if_neg x1, if_neg x2, if_neg x3, if_neg x4, if_neg x5, if_neg x6, if_neg x7, if_pos x8, p2, r.2.1.1]
                  · rw [if_neg x8]
                    by_cases x9 : x = 9
                    · rw [if_pos x9]
                      refine ⟨_, s, s, rfl, ?_, h⟩
                      rw [if_pos hx', if_neg x0, if_neg x1, if_neg x2, if_neg x3, if_neg x4, if_neg x5, if_neg x6, if_neg x7, if_neg x8, if_pos x9, c.2.2.2.1, r.2.2.1]
                    · rw [if_neg x9]
                      by_cases x10 : x = 10
                      · rw [if_pos x10]
                        by_cases h7 : f 2 = 7
                        · obtain ⟨u, u1, u2, u3⟩ := sl_126 v.1 h7 true 100000 0 s (by omega) (by omega) c
                          have u1 : gm_126 1 s = some (mva f R C 3, u) := u1
                          have ru := RV_KC u3 r
                          obtain ⟨w, w1, w2⟩ := sl_224 v.1 h7 100000 0 u (by omega) (by omega) ru.1 ru.2.2.2.2
                          have w1 : gm_224 u = some (mva f R C 3, w) := w1
                          rw [u1, Option.bind_some]
                          refine ⟨_, u, w, rfl, ?_, q_inv u3 u2 r v w2⟩
                          rw [if_pos hx', if_neg x0, if_neg x1, if_neg x2, if_neg x3, if_neg x4, if_neg x5, if_neg x6, if_neg x7, if_neg x8, if_neg x9, if_pos x10, w1, Option.bind_some]
                        · have g1 : gm_126 1 s = some (0, s) := by
                            unfold gm_126
                            rw [show (100000 : Nat) = 99999 + 1 from rfl, gm_126_4, if_pos (by decide), if_neg (by decide), c57, Option.bind_some, if_pos ((gbD s).mpr h7)]
                            rfl
                          have g2 : gm_224 s = some (0, s) := by
                            unfold gm_224
                            rw [show (100000 : Nat) = 99999 + 1 from rfl, gm_224_4, if_pos (by decide), if_neg (by decide), c150, Option.bind_some, if_pos ((gbD s).mpr h7)]
                            rfl
                          rw [g1, Option.bind_some]
                          refine ⟨_, s, s, rfl, ?_, h⟩
                          rw [if_pos hx', if_neg x0, if_neg x1, if_neg x2, if_neg x3, if_neg x4, if_neg x5, if_neg x6, if_neg x7, if_neg x8, if_neg x9, if_pos x10, g2, Option.bind_some]
                      · rw [if_neg x10]
                        by_cases x11 : x = 11
                        · rw [if_pos x11]
                          by_cases h7 : f 2 = 7
                          · obtain ⟨u, u1, u2, u3⟩ := sl_126 v.1 h7 false 100000 0 s (by omega) (by omega) c
                            have u1 : gm_126 0 s = some (asa f R C 3, u) := u1
                            have ru := RV_KC u3 r
                            have w1 := sl_225 v.1 h7 ru.1 100000 0 (by omega) (by omega)
                            have w1 : gm_225 u = some (asa f R C 3, u) := w1
                            rw [u1, Option.bind_some]
                            refine ⟨_, u, u, rfl, ?_, q_inv u3 u2 r v (KRw_rf u)⟩
                            rw [if_pos hx', if_neg x0, if_neg x1, if_neg x2, if_neg x3, if_neg x4, if_neg x5, if_neg x6, if_neg x7, if_neg x8, if_neg x9, if_neg x10, if_pos x11, w1, Option.bind_some]
                          · have g1 : gm_126 0 s = some (0, s) := by
                              unfold gm_126
                              rw [show (100000 : Nat) = 99999 + 1 from rfl, gm_126_4, if_pos (by decide), if_neg (by decide), c57, Option.bind_some, if_pos ((gbD s).mpr h7)]
                              rfl
                            have g2 : gm_225 s = some (0, s) := by
                              unfold gm_225
                              rw [show (100000 : Nat) = 99999 + 1 from rfl, gm_225_4, if_pos (by decide), if_neg (by decide), c150, Option.bind_some, if_pos ((gbD s).mpr h7)]
                              rfl
                            rw [g1, Option.bind_some]
                            refine ⟨_, s, s, rfl, ?_, h⟩
                            rw [if_pos hx', if_neg x0, if_neg x1, if_neg x2, if_neg x3, if_neg x4, if_neg x5, if_neg x6, if_neg x7, if_neg x8, if_neg x9, if_neg x10, if_pos x11, g2, Option.bind_some]
                        · rw [if_neg x11]
                          refine ⟨_, s, s, rfl, ?_, h⟩
                          rw [if_pos hx', if_neg x0, if_neg x1, if_neg x2, if_neg x3, if_neg x4, if_neg x5, if_neg x6, if_neg x7, if_neg x8, if_neg x9, if_neg x10, if_neg x11]
