section
/-! QUERIES: count, whole -/
/-- those moved, or left aside, in all groups up to n -/
def mva (f : Nat → Int) (R C n : Nat) : Int := sg (fun g => sg (fun z => f (5 + 9 * g + z)) 9 - ASf f R C g) n
def asa (f : Nat → Int) (R C n : Nat) : Int := sg (fun g => ASf f R C g) n
theorem sl_126 {f : Nat → Int} {R C n L : Nat} {pf : Nat → Nat → Int} {tb : Nat → Int} (M : MP f R C) (h7 : f 2 = 7) (b : Bool) : ∀ (m g : Nat) (s : gx_S), 3 < m + g → g ≤ 3 → CV s f R C n pf L tb → ∃ u : gx_S, gm_126_4 m (gb b) (if b = true then mva f R C g else asa f R C g) g s = some ((if b = true then mva f R C 3 else asa f R C 3), u) ∧ CV u f R C n pf L tb ∧ KC s u := by
  intro m
  induction m with
  | zero => intro g s h; omega
  | succ m ih =>
    intro g s h hg c
    rw [gm_126_4, if_pos (by omega)]
    by_cases q : g = 3
    · rw [if_pos (by omega), q]
      exact ⟨s, rfl, c, KC_rfl s⟩
    · have e6 : s.1 1 6 = f 2 := c.1.2.2.1
      have c57 := sp_57 (s := s) (a := 1) (by decide +kernel) (by rw [e6]; exact M.2.1)
      rw [e6] at c57
      have ce : ((g : Int) + 1) = ((g + 1 : Nat) : Int) := rfl
      obtain ⟨D, t, t1, t2, t3, t4, t5⟩ := CV_20 M (show g < 3 by omega) c
      obtain ⟨l1, l2, l3⟩ := t4.2.2.2.1 t5
      have kt : KC s t := KG_KC (ga_of (by omega)) t3
      rw [if_neg (by omega), c57, Option.bind_some, if_neg (fun t => (gbD s).mp t h7), if_pos (by omega), Option.bind_some, vg_ g (by omega)]
      show ∃ u : gx_S, ((gm_20 (71 + 48 * g) s).bind _) = _ ∧ _
      rw [t1, Option.bind_some]
      cases b with
      | false =>
        rw [if_pos (by decide), if_pos (show gb false = 0 from rfl)]
        unfold gm_126_59
        rw [l3, ce]
        have st : (if false = true then mva f R C g else asa f R C g) + ASf f R C g = (if false = true then mva f R C (g + 1) else asa f R C (g + 1)) := rfl
        rw [st]
        obtain ⟨u, u1, u2, u3⟩ := ih (g + 1) t (by omega) (by omega) t2
        exact ⟨u, u1, u2, KC_tr kt u3⟩
      | true =>
        rw [if_pos (by decide), if_neg (show ¬ gb true = 0 by decide), sp_66g t2.1 (show g < 3 by omega), Option.bind_some]
        unfold gm_126_59
        show ∃ u : gx_S, gm_126_4 m (gb true) ((if true = true then mva f R C g else asa f R C g) + (sg (fun z => f (5 + 9 * g + z)) 9 - (t.1 (71 + 48 * g) 7))) ((g : Int) + 1) t = _ ∧ _
        rw [l3, ce]
        have st : (if true = true then mva f R C g else asa f R C g) + (sg (fun z => f (5 + 9 * g + z)) 9 - ASf f R C g) = (if true = true then mva f R C (g + 1) else asa f R C (g + 1)) := rfl
        rw [st]
        obtain ⟨u, u1, u2, u3⟩ := ih (g + 1) t (by omega) (by omega) t2
        exact ⟨u, u1, u2, KC_tr kt u3⟩
theorem sl_224 {f : Nat → Int} {R C : Nat} (M : MP f R C) (h7 : f 2 = 7) : ∀ (m g : Nat) (s : gx_S), 3 < m + g → g ≤ 3 → s.1 216 = f → SC s → ∃ u : gx_S, gm_224_4 m (mva f R C g) g s = some (mva f R C 3, u) ∧ KRw s u := by
  intro m
  induction m with
  | zero => intro g s h; omega
  | succ m ih =>
    intro g s h hg ef S
    rw [gm_224_4, if_pos (by omega)]
    by_cases q : g = 3
    · rw [if_pos (by omega), q]
      exact ⟨s, rfl, KRw_rf s⟩
    · have ce : ((g : Int) + 1) = ((g + 1 : Nat) : Int) := rfl
      have c150 : gm_150 s = some (decide (f 2 = 7), s) := by
        have := sp_150 (s := s) (by rw [ef]; exact M.2.1)
        rw [ef] at this
        exact this
      obtain ⟨a, w, a1, w1, a2, w2, w3, w4, w5⟩ := sp_181f (s := s) (R := R) (C := C) (g := g) (by rw [ef]; exact M) (by rw [ef]; exact h7) (by omega) S
      rw [if_neg (by omega), c150, Option.bind_some, if_neg (fun t => (gbD s).mp t h7)]
      show ∃ u : gx_S, ((gm_181 g s).bind _) = _ ∧ _
      rw [a1, Option.bind_some, w1, Option.bind_some, sp_184 (R := 8) (m := 9) w3 w4 (by omega) (by omega), Option.bind_some]
      have e : sg (fun x => sg (fun y => w.2 224 (9 * x + y)) 9) 8 = sg (fun z => f (5 + 9 * g + z)) 9 - ASf f R C g := by
        rw [← GV_all M h7 (show g < 3 by omega)]
        exact sg_eq fun x hx => sg_eq fun y hy => by
          have := ((w5 x hx).2.2 y hy).2
          rw [ef] at this
          exact this
      show ∃ u : gx_S, gm_224_4 m (mva f R C g + sg (fun x => sg (fun y => w.2 224 (9 * x + y)) 9) 8) ((g : Int) + 1) w = _ ∧ _
      rw [e, ce]
      obtain ⟨u, u1, u2⟩ := ih (g + 1) w (by omega) (by omega) ((KR_216 w2).trans ef) (w2.2.2 S)
      exact ⟨u, u1, KRw_tr (KR_w w2) u2⟩
theorem sl_225 {f : Nat → Int} {R C : Nat} {s : gx_S} (M : MP f R C) (h7 : f 2 = 7) (ef : s.1 216 = f) : ∀ (m g : Nat), 3 < m + g → g ≤ 3 → gm_225_4 m (asa f R C g) g s = some (asa f R C 3, s) := by
  intro m
  induction m with
  | zero => intro g h; omega
  | succ m ih =>
    intro g h hg
    rw [gm_225_4, if_pos (by omega)]
    by_cases q : g = 3
    · rw [if_pos (by omega), q]
      rfl
    · have ce : ((g : Int) + 1) = ((g + 1 : Nat) : Int) := rfl
      have c150 : gm_150 s = some (decide (f 2 = 7), s) := by
        have := sp_150 (s := s) (by rw [ef]; exact M.2.1)
        rw [ef] at this
        exact this
      have c176 := sp_176 (s := s) (R := R) (C := C) (g := g) (by rw [ef]; exact M) (by omega)
      rw [ef] at c176
      rw [if_neg (by omega), c150, Option.bind_some, if_neg (fun t => (gbD s).mp t h7)]
      show ((gm_176 g s).bind _) = _
      rw [c176, Option.bind_some, ce]
      exact ih (g + 1) (by omega) (by omega)
theorem inv_count {s : gx_S} (h : INV s) {x : Int} (hx : i32 x) : two s (gm_111 x) (gm_226 x) := by
  obtain ⟨f, R, C, n, pf, L, tb, c, r, v⟩ := id h
  have hx' := hx
  unfold i32 at hx'
  have ef : s.1 216 = f := r.1
  have m := c.1
  have Ms : MP (s.1 216) R C := by rw [ef]; exact v.1
  have e6 : s.1 1 6 = f 2 := c.1.2.2.1
  have c57 := sp_57 (s := s) (a := 1) (by decide +kernel) (by rw [e6]; exact v.1.2.1)
  rw [e6] at c57
  have c150 : gm_150 s = some (decide (f 2 = 7), s) := by
    have := sp_150 (s := s) (by rw [ef]; exact v.1.2.1)
    rw [ef] at this
    exact this
  unfold two gm_111 gm_226
  rw [if_pos hx']
  by_cases x0 : x = 0
  · rw [if_pos x0, sp_58 (MR_cz m v.1), Option.bind_some]
    refine ⟨_, s, s, rfl, ?_, h⟩
    rw [if_pos hx', if_pos x0]
    unfold gm_151
    rw [Option.bind_some, ef, v.1.1.1, v.1.1.2.1, Int.natCast_mul]
  · rw [if_neg x0]
    by_cases x1 : x = 1
    · rw [if_pos x1]
      refine ⟨_, s, s, rfl, ?_, h⟩
      rw [if_pos hx', if_neg x0, if_pos x1, ef, m.1]
    · rw [if_neg x1]
      by_cases x2 : x = 2
      · have c63 := sp_63 m v.1 0 8 (by omega) (by omega)
        have c154 := sp_154 Ms 0 8 (by omega) (by omega)
        rw [ef] at c154
        have c63 : gm_63 1 0 8 s = _ := c63
        have c154 : gm_154 0 8 s = _ := c154
        rw [if_pos x2, c63, Option.bind_some]
        refine ⟨_, s, s, rfl, ?_, h⟩
        rw [if_pos hx', if_neg x0, if_neg x1, if_pos x2, c154, Option.bind_some]
      · rw [if_neg x2]
        by_cases x3 : x = 3
        · have c63 := sp_63 m v.1 1 8 (by omega) (by omega)
          have c154 := sp_154 Ms 1 8 (by omega) (by omega)
          rw [ef] at c154
          have c63 : gm_63 1 1 8 s = _ := c63
          have c154 : gm_154 1 8 s = _ := c154
          rw [if_pos x3, c63, Option.bind_some]
          refine ⟨_, s, s, rfl, ?_, h⟩
          rw [if_pos hx', if_neg x0, if_neg x1, if_neg x2, if_pos x3, c154, Option.bind_some]
        · rw [if_neg x3]
          by_cases x4 : x = 4
          · have c63 := sp_63 m v.1 2 4 (by omega) (by omega)
            have c154 := sp_154 Ms 2 4 (by omega) (by omega)
            rw [ef] at c154
            have c63 : gm_63 1 2 4 s = _ := c63
            have c154 : gm_154 2 4 s = _ := c154
            rw [if_pos x4, c63, Option.bind_some]
            refine ⟨_, s, s, rfl, ?_, h⟩
            rw [if_pos hx', if_neg x0, if_neg x1, if_neg x2, if_neg x3, if_pos x4, c154, Option.bind_some]
          · rw [if_neg x4]
            by_cases x5 : x = 5
            · rw [if_pos x5]
              refine ⟨_, s, s, rfl, ?_, h⟩
              rw [if_pos hx', if_neg x0, if_neg x1, if_neg x2, if_neg x3, if_neg x4, if_pos x5, ef, m.2.2.2.1]
            · rw [if_neg x5]
              by_cases x6 : x = 6
              · rw [if_pos x6]
                refine ⟨_, s, s, rfl, ?_, h⟩
                rw [if_pos hx', if_neg x0, if_neg x1, if_neg x2, if_neg x3, if_neg x4, if_neg x5, if_pos x6, ef, m.2.2.2.2.1]
              · rw [if_neg x6]
                by_cases x7 : x = 7
                · rw [if_pos x7]
                  refine ⟨_, s, s, rfl, ?_, h⟩
                  rw [if_pos hx', if_neg x0, if_neg x1, if_neg x2, if_neg x3, if_neg x4, if_neg x5, if_neg x6, if_pos x7, ef, e6]
                · rw [if_neg x7]
                  by_cases x8 : x = 8
                  · obtain ⟨_, p, _, _, p2, _⟩ := c.2.2.1
                    rw [if_pos x8]
                    refine ⟨_, s, s, rfl, ?_, h⟩
                    rw [if_pos hx', if_neg x0, if_neg x1, if_neg x2, if_neg x3, if_neg x4, if_neg x5, if_neg x6, if_neg x7, if_pos x8, p2, r.2.1.1]
                  · rw [if_neg x8]
                    by_cases x9 : x = 9
                    · rw [if_pos x9]
                      refine ⟨_, s, s, rfl, ?_, h⟩
                      rw [if_pos hx', if_neg x0, if_neg x1, if_neg x2, if_neg x3, if_neg x4, if_neg x5, if_neg x6, if_neg x7, if_neg x8, if_pos x9, c.2.2.2.1, r.2.2.1]
                    · rw [if_neg x9]
                      by_cases x10 : x = 10
                      · rw [if_pos x10]
                        by_cases h7 : f 2 = 7
                        · obtain ⟨u, u1, u2, u3⟩ := sl_126 v.1 h7 true 100000 0 s (by omega) (by omega) c
                          have u1 : gm_126 1 s = some (mva f R C 3, u) := u1
                          have ru := RV_KC u3 r
                          obtain ⟨w, w1, w2⟩ := sl_224 v.1 h7 100000 0 u (by omega) (by omega) ru.1 ru.2.2.2.2
                          have w1 : gm_224 u = some (mva f R C 3, w) := w1
                          rw [u1, Option.bind_some]
                          refine ⟨_, u, w, rfl, ?_, q_inv u3 u2 r v w2⟩
                          rw [if_pos hx', if_neg x0, if_neg x1, if_neg x2, if_neg x3, if_neg x4, if_neg x5, if_neg x6, if_neg x7, if_neg x8, if_neg x9, if_pos x10, w1, Option.bind_some]
                        · have g1 : gm_126 1 s = some (0, s) := by
                            unfold gm_126
                            rw [show (100000 : Nat) = 99999 + 1 from rfl, gm_126_4, if_pos (by decide), if_neg (by decide), c57, Option.bind_some, if_pos ((gbD s).mpr h7)]
                            rfl
                          have g2 : gm_224 s = some (0, s) := by
                            unfold gm_224
                            rw [show (100000 : Nat) = 99999 + 1 from rfl, gm_224_4, if_pos (by decide), if_neg (by decide), c150, Option.bind_some, if_pos ((gbD s).mpr h7)]
                            rfl
                          rw [g1, Option.bind_some]
                          refine ⟨_, s, s, rfl, ?_, h⟩
                          rw [if_pos hx', if_neg x0, if_neg x1, if_neg x2, if_neg x3, if_neg x4, if_neg x5, if_neg x6, if_neg x7, if_neg x8, if_neg x9, if_pos x10, g2, Option.bind_some]
                      · rw [if_neg x10]
                        by_cases x11 : x = 11
                        · rw [if_pos x11]
                          by_cases h7 : f 2 = 7
                          · obtain ⟨u, u1, u2, u3⟩ := sl_126 v.1 h7 false 100000 0 s (by omega) (by omega) c
                            have u1 : gm_126 0 s = some (asa f R C 3, u) := u1
                            have ru := RV_KC u3 r
                            have w1 := sl_225 v.1 h7 ru.1 100000 0 (by omega) (by omega)
                            have w1 : gm_225 u = some (asa f R C 3, u) := w1
                            rw [u1, Option.bind_some]
                            refine ⟨_, u, u, rfl, ?_, q_inv u3 u2 r v (KRw_rf u)⟩
                            rw [if_pos hx', if_neg x0, if_neg x1, if_neg x2, if_neg x3, if_neg x4, if_neg x5, if_neg x6, if_neg x7, if_neg x8, if_neg x9, if_neg x10, if_pos x11, w1, Option.bind_some]
                          · have g1 : gm_126 0 s = some (0, s) := by
                              unfold gm_126
                              rw [show (100000 : Nat) = 99999 + 1 from rfl, gm_126_4, if_pos (by decide), if_neg (by decide), c57, Option.bind_some, if_pos ((gbD s).mpr h7)]
                              rfl
                            have g2 : gm_225 s = some (0, s) := by
                              unfold gm_225
                              rw [show (100000 : Nat) = 99999 + 1 from rfl, gm_225_4, if_pos (by decide), if_neg (by decide), c150, Option.bind_some, if_pos ((gbD s).mpr h7)]
                              rfl
                            rw [g1, Option.bind_some]
                            refine ⟨_, s, s, rfl, ?_, h⟩
                            rw [if_pos hx', if_neg x0, if_neg x1, if_neg x2, if_neg x3, if_neg x4, if_neg x5, if_neg x6, if_neg x7, if_neg x8, if_neg x9, if_neg x10, if_pos x11, g2, Option.bind_some]
                        · rw [if_neg x11]
                          refine ⟨_, s, s, rfl, ?_, h⟩
                          rw [if_pos hx', if_neg x0, if_neg x1, if_neg x2, if_neg x3, if_neg x4, if_neg x5, if_neg x6, if_neg x7, if_neg x8, if_neg x9, if_neg x10, if_neg x11]
end
section
/-! QUERIES: exact: Euclid's steps, fewer than a hundred -/
def Fb : Nat → Nat → Nat → Bool
  | 0, p, q => p == 1 && q == 1
  | n + 1, p, q => decide (p ≤ q) && Fb n (q - p) p
theorem sl_128f : ∀ (n fu p q a b j : Nat) (s : gx_S), Fb n p q = true → b < a → (b < p ∨ a < q) → j + n < 100 → n < fu → a ≤ 9000000000000000000 → gm_128_9 fu a b j s = some (((Nat.gcd a b : Nat) : Int), s) := by
  intro n
  induction n with
  | zero =>
    intro fu p q a b j s h hb hh hj hf ha
    obtain ⟨fu, rfl⟩ : ∃ m, fu = m + 1 := ⟨fu - 1, by omega⟩
    have h : (p == 1 && q == 1) = true := h
    rw [Bool.and_eq_true, beq_iff_eq, beq_iff_eq] at h
    have b0 : b = 0 := by omega
    subst b0
    rw [gm_128_9, Nat.gcd_zero_right, if_pos (by omega), if_neg (by omega), if_pos (by decide), if_pos (show ((0 : Nat) : Int) = 0 from rfl)]
    rfl
  | succ n ih =>
    intro fu p q a b j s h hb hh hj hf ha
    obtain ⟨fu, rfl⟩ : ∃ m, fu = m + 1 := ⟨fu - 1, by omega⟩
    have h : (decide (p ≤ q) && Fb n (q - p) p) = true := h
    rw [Bool.and_eq_true, decide_eq_true_eq] at h
    rw [gm_128_9, if_pos (by omega), if_neg (by omega), if_pos (by omega)]
    by_cases b0 : b = 0
    · subst b0
      rw [Nat.gcd_zero_right, if_pos (show ((0 : Nat) : Int) = 0 from rfl)]
      rfl
    · have e1 : (a : Int) % (b : Int) = ((a % b : Nat) : Int) := rfl
      have c1 : ((j : Int) + 1) = ((j + 1 : Nat) : Int) := rfl
      have m1 := Nat.mod_lt a (Nat.pos_of_ne_zero b0)
      have g1 : Nat.gcd a b = Nat.gcd b (a % b) := by rw [Nat.gcd_comm a b, Nat.gcd_rec b a, Nat.gcd_comm]
      have ab : b + a % b ≤ a := by
        have d := Nat.div_add_mod a b
        have d1 : 1 ≤ a / b := (Nat.one_le_div_iff (Nat.pos_of_ne_zero b0)).mpr (by omega)
        have d2 := Nat.mul_le_mul_left b d1
        omega
      rw [if_neg (by omega), if_pos (by omega), e1, c1, g1]
      exact ih fu (q - p) p b (a % b) (j + 1) s h.2 m1 (by omega) (by omega) (by omega) (by omega)
theorem sp_128f (s : gx_S) {a b : Nat} (ha : a < b) (hb : b ≤ 20000000000000000) : gm_128 a b s = some (((Nat.gcd a b : Nat) : Int), s) := by
  unfold gm_128
  have e1 : (a : Int) % (b : Int) = (a : Int) := Int.emod_eq_of_lt (by omega) (by omega)
  have i := sl_128f 78 99999 14472334024676221 23416728348467685 b a 1 s (by decide +kernel) ha (.inr (by omega)) (by omega) (by omega) (by omega)
  rw [show (100000 : Nat) = 99999 + 1 from rfl, gm_128_9, if_pos (by decide), if_neg (by decide), if_pos (by omega), if_neg (by omega), if_pos (by omega), e1, Nat.gcd_comm]
  exact i
theorem sp_127f (s : gx_S) {a b : Nat} {w : Int} (ha : a < b) (hb : b ≤ 20000000000000000) (hw : i32 w) : gm_127 a b w s = some ((if ¬ w = 0 then (b : Int) else (a : Int)) / ((Nat.gcd a b : Nat) : Int), s) := by
  unfold i32 at hw
  have b0 : 0 < b := by omega
  have g0 : 0 < Nat.gcd a b := Nat.gcd_pos_of_pos_right a b0
  have g1 : Nat.gcd a b ≤ b := Nat.gcd_le_right a b0
  unfold gm_127
  rw [sp_128f s ha hb, Option.bind_some]
  show (if (-9223372036854775808 ≤ ((Nat.gcd a b : Nat) : Int) ∧ ((Nat.gcd a b : Nat) : Int) ≤ 9223372036854775807) then (if ¬ ((Nat.gcd a b : Nat) : Int) = 0 then (if (-2147483648 ≤ w ∧ w ≤ 2147483647) then (if ¬ w = 0 then gm_127_28 ((Nat.gcd a b : Nat) : Int) b s else gm_127_28 ((Nat.gcd a b : Nat) : Int) a s) else none) else some ((-1), s)) else none) = _
  rw [if_pos (by omega), if_pos (show ¬ ((Nat.gcd a b : Nat) : Int) = 0 by omega), if_pos hw]
  unfold gm_127_28
  by_cases z : ¬ w = 0
  · rw [if_pos z, if_pos z, if_pos (by omega)]
  · rw [if_neg z, if_neg z, if_pos (by omega)]
theorem sp_194f (s : gx_S) {a b : Nat} {w : Int} (ha : a < b) (hb : b ≤ 20000000000000000) (hw : i32 w) : gm_194 a b w s = some ((if ¬ w = 0 then (b : Int) else (a : Int)) / ((Nat.gcd a b : Nat) : Int), s) := by
  unfold i32 at hw
  have b0 : 0 < b := by omega
  have g0 : 0 < Nat.gcd a b := Nat.gcd_pos_of_pos_right a b0
  have g1 : Nat.gcd a b ≤ b := Nat.gcd_le_right a b0
  have c : gm_164 a b s = some (((Nat.gcd a b : Nat) : Int), s) := sl_164 60 100000 a b s (by omega) (by omega) (by omega) (by omega)
  unfold gm_194
  rw [c, Option.bind_some, if_pos hw]
  by_cases z : ¬ w = 0
  · rw [if_pos z, if_pos z, if_pos (by omega)]
  · rw [if_neg z, if_neg z, if_pos (by omega)]
theorem cm_c {v w : Nat → Int} : ∀ {n : Nat}, (∀ k, k < n → v k = w k) → cm v n = cm w n
  | 0, _ => rfl
  | n + 1, h => by
    show (if v n ≤ 0 then cm v n else Nat.lcm (cm v n) (v n).toNat) = (if w n ≤ 0 then cm w n else Nat.lcm (cm w n) (w n).toNat)
    rw [h n (by omega), cm_c (n := n) fun k hk => h k (by omega)]
theorem sl_77 {t c : Nat} {s : gx_S} (hc : c < 9) : ∀ (n j : Nat), 8 < n + j → j ≤ 8 → gm_77_4 n t c (sg (fun r => s.1 (t + 6) (9 * r + c)) j) j s = some (sg (fun r => s.1 (t + 6) (9 * r + c)) 8, s) := by
  intro n
  induction n with
  | zero => intro j h; omega
  | succ n ih =>
    intro j h hj
    rw [gm_77_4, if_pos (by omega)]
    by_cases q : j = 8
    · rw [if_pos (by omega), q]
    · have ce : ((j : Int) + 1) = ((j + 1 : Nat) : Int) := rfl
      rw [if_neg (by omega), if_pos (by omega), show (((j : Int) * 9) + (c : Int)).toNat = 9 * j + c by omega, ce]
      exact ih (j + 1) (by omega) (by omega)
theorem sp_77 {t c : Nat} {s : gx_S} (ht : fx_oc t 7 = true) (hc : c < 9) : gm_77 t c s = some (sg (fun r => s.1 (t + 6) (9 * r + c)) 8, s) := by
  unfold gm_77
  rw [if_pos ht]
  exact sl_77 hc 100000 0 (by omega) (by omega)
end
section
/-! QUERIES: exact: the reference's running fraction -/
def vt (A : Nat → Nat → Int) (x : Nat) : Int := sg (fun y => A x y) 9
def Tx (P : Nat → Int) (A : Nat → Nat → Int) (z : Nat) (K : Int) (r : Nat) : Int := if vt A r ≤ 0 then 0 else rsv P A r z * (K / vt A r)
theorem rsv_r {P : Nat → Int} {A : Nat → Nat → Int} (h : PA P A) {x y : Nat} (hx : x < 8) (hy : y < 9) : 0 ≤ rsv P A x y ∧ (0 < vt A x → rsv P A x y < vt A x) := by
  have a := (h.2.1 x y hx hy).1
  have p := (h.1 x hx).1
  unfold rsv vt
  by_cases z : sg (fun y => A x y) 9 ≤ 0
  · rw [if_pos z]
    exact ⟨by omega, fun q => by omega⟩
  · rw [if_neg z]
    exact ⟨Int.emod_nonneg _ (by omega), fun q => Int.emod_lt_of_pos _ q⟩
theorem vt_r {P : Nat → Int} {A : Nat → Nat → Int} (h : PA P A) (h8 : sg (fun x => sg (fun y => A x y) 9) 8 ≤ 864) {x : Nat} (hx : x < 8) : 0 ≤ vt A x ∧ vt A x ≤ 864 := by
  have n : ∀ x, x < 8 → 0 ≤ vt A x := fun x hx => sg_nn fun y hy => (h.2.1 x y hx hy).1
  have := sg_at (f := vt A) (n := 8) n x hx
  have e : sg (vt A) 8 ≤ 864 := h8
  exact ⟨n x hx, by omega⟩
theorem Tx_r {P : Nat → Int} {A : Nat → Nat → Int} (h : PA P A) {z : Nat} {K : Nat} (hz : z < 9) (hK : ∀ x, x < 8 → 0 < vt A x → (vt A x).toNat ∣ K) {x : Nat} (hx : x < 8) : 0 ≤ Tx P A z K x ∧ Tx P A z K x ≤ K := by
  have r := rsv_r h hx hz
  unfold Tx
  by_cases q : vt A x ≤ 0
  · rw [if_pos q]
    omega
  · rw [if_neg q]
    obtain ⟨k, hk⟩ := hK x hx (by omega)
    have e : (K : Int) = vt A x * k := by
      rw [hk, Int.natCast_mul, Int.toNat_of_nonneg (by omega)]
    have d : (K : Int) / vt A x = k := by
      rw [e, Int.mul_ediv_cancel_left _ (by omega)]
    rw [d]
    refine ⟨Int.mul_nonneg r.1 (by omega), ?_⟩
    rw [e]
    exact Int.mul_le_mul_of_nonneg_right (by have := r.2 (by omega); omega) (by omega)
theorem sl_196 {P : Nat → Int} {A : Nat → Nat → Int} {z K : Nat} {w : Int} (h : PA P A) (h8 : sg (fun x => sg (fun y => A x y) 9) 8 ≤ 864) (hz : z < 9) (hK : K = cm (vt A) 8) (hw : 0 ≤ w ∧ w ≤ 2) : ∀ (n j : Nat) (s : gx_S), 8 < n + j → j ≤ 8 → s.1 215 18 = 9 → (∀ x, x < 8 → s.2 221 x = P x ∧ ∀ y, y < 9 → s.1 222 (9 * x + y) = A x y) → s.2 215 30 = (cm (vt A) j : Nat) → s.2 215 29 * (K : Int) = (cm (vt A) j : Nat) * sg (Tx P A z K) j → SC s → ∃ u : gx_S, gm_196_63 n z w (sg (fun x => flv P A x z) j) j s = some (if ¬ w = 0 then (if ¬ w - 1 = 0 then (K : Int) else sg (Tx P A z K) 8 % K) / ((Nat.gcd (sg (Tx P A z K) 8 % K).toNat K : Nat) : Int) else sg (fun x => flv P A x z) 8 + sg (Tx P A z K) 8 / K, u) ∧ KRw s u := by
  have v0 : ∀ k, k < 8 → 0 ≤ vt A k := fun k hk => (vt_r h h8 hk).1
  have cB : ∀ n, n ≤ 8 → cm (vt A) n ≤ 20000000000000000 := fun n hn => cm_B v0 h8 hn
  have K0 : 0 < K := by rw [hK]; exact cm_pos _ 8
  have KB : K ≤ 20000000000000000 := by rw [hK]; exact cB 8 (by omega)
  have dv : ∀ x, x < 8 → 0 < vt A x → (vt A x).toNat ∣ K := fun x hx hp => by rw [hK]; exact cm_dvd hx hp
  have cd : ∀ j, j ≤ 8 → cm (vt A) j ∣ K := fun j hj => by
    rw [hK]
    have : ∀ d, cm (vt A) j ∣ cm (vt A) (j + d) := fun d => by
      induction d with
      | zero => exact Nat.dvd_refl _
      | succ d ih =>
        refine Nat.dvd_trans ih ?_
        show _ ∣ (if vt A (j + d) ≤ 0 then cm (vt A) (j + d) else Nat.lcm (cm (vt A) (j + d)) (vt A (j + d)).toNat)
        split
        · exact Nat.dvd_refl _
        · exact Nat.dvd_lcm_left _ _
    have := this (8 - j)
    rw [show j + (8 - j) = 8 by omega] at this
    exact this
  have TB8 : 0 ≤ sg (Tx P A z K) 8 ∧ sg (Tx P A z K) 8 ≤ 8 * K := by
    refine ⟨sg_nn fun x hx => (Tx_r h hz dv hx).1, ?_⟩
    have := sg_le (f := Tx P A z K) (g := fun _ => (K : Int) * 1) (n := 8) fun x hx => by
      show _ ≤ (K : Int) * 1
      rw [Int.mul_one]
      exact (Tx_r h hz dv hx).2
    rw [sg_mul, sg_one] at this
    omega
  intro n
  induction n with
  | zero => intro j s h; omega
  | succ n ih =>
    intro j s hn hj e18 eA e30 e29 S
    rw [gm_196_63, if_pos (by omega)]
    by_cases q : j = 8
    · have n29 : s.2 215 29 = sg (Tx P A z K) 8 := by
        rw [q, ← hK, Int.mul_comm] at e29
        exact Int.eq_of_mul_eq_mul_left (by omega) e29
      rw [q, ← hK] at e30
      rw [if_pos (by omega), n29, e30, if_pos (by omega), if_pos (by omega), q]
      by_cases t : ¬ w = 0
      · have m0 := Int.emod_nonneg (sg (Tx P A z K) 8) (show (K : Int) ≠ 0 by omega)
        have m1 := Int.emod_lt_of_pos (sg (Tx P A z K) 8) (show (0 : Int) < K by omega)
        obtain ⟨a, ha⟩ : ∃ a : Nat, sg (Tx P A z K) 8 % (K : Int) = a := ⟨_, (Int.toNat_of_nonneg m0).symm⟩
        rw [if_pos t, if_pos t, ha]
        rw [sp_194f s (by omega) KB (show i32 (w - 1) by unfold i32; omega), Option.bind_some]
        exact ⟨s, rfl, KRw_rf s⟩
      · rw [if_neg t, if_neg t]
        exact ⟨s, rfl, KRw_rf s⟩
    · have i5 : ((j : Int)).toNat = j := by omega
      have ce : ((j : Int) + 1) = ((j + 1 : Nat) : Int) := rfl
      have vr := vt_r h h8 (show j < 8 by omega)
      have ej : sg (fun c => s.1 222 (9 * j + c)) 9 = vt A j := sg_eq fun y hy => (eA j (by omega)).2 y hy
      have c61 := sp_161 (s := s) (r := j) (m := 9) (by omega) (by omega) e18
      rw [ej] at c61
      obtain ⟨a, ha⟩ : ∃ a, a = gw1 s 223 j (vt A j) := ⟨_, rfl⟩
      rw [← ha] at c61
      have a1 : ∀ k i, k ≠ 223 → a.1 k i = s.1 k i := fun k i q => by rw [ha, gw1_1, if_neg (by omega)]
      have a2 : a.2 = s.2 := by rw [ha]; rfl
      have aS : SC a := ⟨fun j hj => by rw [a2, a1 232 j (by decide), a1 233 j (by decide), a1 234 j (by decide)]; exact S.1 j hj, fun d hd => by rw [a2, a1 235 d (by decide)]; exact S.2.1 d hd, fun k hk => by rw [a2]; exact S.2.2 k hk⟩
      have aK : KRw s a := ⟨fun k i q => a1 k i (by omega), fun k i _ => by rw [a2], fun _ => aS⟩
      rw [if_neg (by omega), c61, Option.bind_some]
      show ∃ u : gx_S, (if (-2147483648 ≤ vt A j ∧ vt A j ≤ 2147483647) then (if vt A j ≤ 0 then gm_196_125 (gm_196_63 n) z w (sg (fun x => flv P A x z) j) j a else ((gm_162 j a).bind _)) else none) = _ ∧ _
      rw [if_pos (by omega)]
      by_cases zz : vt A j ≤ 0
      · have f0 : flv P A j z = 0 := if_pos zz
        have t0 : Tx P A z K j = 0 := if_pos zz
        have c0 : cm (vt A) (j + 1) = cm (vt A) j := if_pos zz
        have sf : sg (fun x => flv P A x z) (j + 1) = sg (fun x => flv P A x z) j := by
          show sg (fun x => flv P A x z) j + flv P A j z = _
          rw [f0, Int.add_zero]
        have st : sg (Tx P A z K) (j + 1) = sg (Tx P A z K) j := by
          show sg (Tx P A z K) j + Tx P A z K j = _
          rw [t0, Int.add_zero]
        rw [if_pos zz]
        unfold gm_196_125
        rw [ce, ← sf]
        obtain ⟨u, u1, u2⟩ := ih (j + 1) a (by omega) (by omega) (by rw [a1 _ _ (by decide)]; exact e18) (fun x hx => ⟨by rw [a2]; exact (eA x hx).1, fun y hy => by rw [a1 _ _ (by decide)]; exact (eA x hx).2 y hy⟩) (by rw [a2, c0]; exact e30) (by rw [a2, c0, st]; exact e29) aS
        exact ⟨u, u1, KRw_tr aK u2⟩
      · have pr := h.1 j (by omega)
        have aj : a.1 223 j = vt A j := by rw [ha, gw1_1, if_pos ⟨rfl, rfl⟩]
        have a22 : ∀ y, y < 9 → a.1 222 (9 * j + y) = A j y := fun y hy => by rw [a1 _ _ (by decide)]; exact (eA j (by omega)).2 y hy
        have a21 : a.2 221 j = P j := by rw [a2]; exact (eA j (by omega)).1
        have c62 := sp_162 (s := a) (r := j) (m := 9) (by omega) (by omega) (by rw [a1 _ _ (by decide)]; exact e18) (by rw [a21]; omega) (fun y hy => by
          rw [a22 y hy]
          exact h.2.1 j y (by omega) hy) (by rw [aj]; omega)
        have b4 : (ct a j 9).2 224 (9 * j + z) = flv P A j z := by
          rw [ct_4 (by omega), if_pos (by omega)]
          unfold flq flv
          rw [show (9 * j + z) / 9 = j by omega, aj, a21, a22 z hz, if_neg (by omega)]
          exact (if_neg zz).symm
        have b5 : ∀ y, y < 9 → (ct a j 9).2 225 (9 * j + y) = rsv P A j y := fun y hy => by
          rw [ct_5 (by omega), if_pos (by omega)]
          unfold rsq rsv
          rw [show (9 * j + y) / 9 = j by omega, aj, a21, a22 y hy, if_neg (by omega)]
          exact (if_neg zz).symm
        obtain ⟨b, hb⟩ : ∃ b, b = ct a j 9 := ⟨_, rfl⟩
        rw [← hb] at c62 b4 b5
        have b1 : b.1 = a.1 := by rw [hb]; rfl
        have bo : ∀ k i, k ≠ 224 → k ≠ 225 → b.2 k i = s.2 k i := fun k i h1 h2 => by rw [hb, ct_o _ _ _ _ _ h1 h2, a2]
        have bS : SC b := ⟨fun i hi => by
          refine ⟨by rw [b1]; exact (aS.1 i hi).1, by rw [b1]; exact (aS.1 i hi).2.1, by rw [b1]; exact (aS.1 i hi).2.2.1, ?_⟩
          by_cases y : 9 * j ≤ i ∧ i < 9 * j + 9
          · have := b5 (i - 9 * j) (by omega)
            rw [show 9 * j + (i - 9 * j) = i by omega] at this
            have r := rsv_r h (show j < 8 by omega) (show i - 9 * j < 9 by omega)
            have := r.2 (by omega)
            omega
          · rw [hb, ct_5 (by omega), if_neg y]
            exact (aS.1 i hi).2.2.2, fun d hd => by rw [bo _ _ (by decide) (by decide), bo _ _ (by decide) (by decide), bo _ _ (by decide) (by decide), bo _ _ (by decide) (by decide), b1, a1 235 d (by decide)]; exact S.2.1 d hd, fun k hk => by rw [bo _ _ (by decide) (by decide)]; exact S.2.2 k hk⟩
        have bj : b.1 223 j = (((vt A j).toNat : Nat) : Int) := by rw [b1, aj]; omega
        have b30 : b.2 215 30 = (cm (vt A) j : Nat) := by rw [bo _ _ (by decide) (by decide)]; exact e30
        have b29 : b.2 215 29 = s.2 215 29 := bo _ _ (by decide) (by decide)
        have cj := cm_pos (vt A) j
        have c1 : cm (vt A) (j + 1) = Nat.lcm (cm (vt A) j) (vt A j).toNat := if_neg zz
        have c165 := sp_165 (s := b) (x := rsv P A j z) (d := cm (vt A) j) (t := (vt A j).toNat) b30 cj (by omega) (by omega) (by rw [← c1]; exact cB (j + 1) (by omega))
        obtain ⟨f1, f2⟩ := add_fr (x := rsv P A j z) cj (show 0 < (vt A j).toNat by omega) (cd j (by omega)) (dv j (by omega) (by omega)) e29
        rw [← c1] at c165 f2
        rw [if_neg zz, c62, Option.bind_some]
        unfold gm_160
        rw [Option.bind_some]
        show ∃ u : gx_S, (if 0 ≤ (9 * (j : Int)) + (z : Int) ∧ (9 * (j : Int)) + (z : Int) < 72 then (if 0 ≤ (9 * (j : Int)) + (z : Int) ∧ (9 * (j : Int)) + (z : Int) < 72 then (if 0 ≤ (j : Int) ∧ (j : Int) < 8 then (if (-2147483648 ≤ (b.1 223 (j : Int).toNat) ∧ (b.1 223 (j : Int).toNat) ≤ 2147483647) then ((gm_165 (b.2 225 ((9 * (j : Int)) + (z : Int)).toNat) (b.1 223 (j : Int).toNat) b).bind fun q31 => gm_196_125 (gm_196_63 n) z w (sg (fun x => flv P A x z) j + (b.2 224 ((9 * (j : Int)) + (z : Int)).toNat)) j q31) else none) else none) else none) else none) = _ ∧ _
        rw [if_pos (by omega), if_pos (by omega), if_pos (by omega), i5, show ((9 * (j : Int)) + (z : Int)).toNat = 9 * j + z by omega, b4, b5 z hz, bj, if_pos (by omega), c165, Option.bind_some]
        unfold gm_196_125
        obtain ⟨d, hd⟩ : ∃ d, d = gw2 (gw2 b 215 29 (b.2 215 29 * (((cm (vt A) (j + 1) : Nat) : Int) / ((cm (vt A) j : Nat) : Int)) + rsv P A j z * (((cm (vt A) (j + 1) : Nat) : Int) / (((vt A j).toNat : Nat) : Int)))) 215 30 ((cm (vt A) (j + 1) : Nat) : Int) := ⟨_, rfl⟩
        rw [← hd, ce]
        have d1 : ∀ k i, d.1 k i = a.1 k i := fun k i => by rw [hd, gw2_1, gw2_1, b1]
        have d2 : ∀ k i, k ≠ 215 → d.2 k i = b.2 k i := fun k i q => by rw [hd, gw2_2, if_neg (by omega), gw2_2, if_neg (by omega)]
        have dS : SC d := ⟨fun i hi => by rw [d1, d1, d1, d2 _ _ (by decide), ← b1]; exact bS.1 i hi, fun e he => by rw [d1, d2 _ _ (by decide), d2 _ _ (by decide), d2 _ _ (by decide), d2 _ _ (by decide), ← b1]; exact bS.2.1 e he, fun k hk => by rw [d2 _ _ (by decide)]; exact bS.2.2 k hk⟩
        have dK : KRw s d := ⟨fun k i q => by rw [d1, a1 k i (by omega)], fun k i q => by rw [d2 k i (by omega), bo k i (by omega) (by omega)], fun _ => dS⟩
        have sT : Tx P A z K j = rsv P A j z * ((K : Int) / (((vt A j).toNat : Nat) : Int)) := by
          unfold Tx
          rw [if_neg zz, Int.toNat_of_nonneg vr.1]
        obtain ⟨u, u1, u2⟩ := ih (j + 1) d (by omega) (by omega) (by rw [d1, a1 _ _ (by decide)]; exact e18) (fun x hx => ⟨by rw [d2 _ _ (by decide), bo _ _ (by decide) (by decide)]; exact (eA x hx).1, fun y hy => by rw [d1, a1 _ _ (by decide)]; exact (eA x hx).2 y hy⟩) (by rw [hd, gw2_2, if_pos ⟨rfl, rfl⟩]) (by
          have e : d.2 215 29 = s.2 215 29 * (((cm (vt A) (j + 1) : Nat) : Int) / ((cm (vt A) j : Nat) : Int)) + rsv P A j z * (((cm (vt A) (j + 1) : Nat) : Int) / (((vt A j).toNat : Nat) : Int)) := by
            rw [hd, gw2_2, if_neg (by omega), gw2_2, if_pos ⟨rfl, rfl⟩, b29]
          rw [e, f2]
          show _ = ((cm (vt A) (j + 1) : Nat) : Int) * (sg (Tx P A z K) j + Tx P A z K j)
          rw [sT]) dS
        exact ⟨u, u1, KRw_tr dK u2⟩
end
section
/-! QUERIES: exact, whole -/
theorem inv_exact {s : gx_S} (h : INV s) {x z w : Int} (hx : i32 x) (hz : i32 z) (hw : i32 w) : two s (gm_100 x z w) (gm_196 x z w) := by
  obtain ⟨f, R, C, n, pf, L, tb, c, r, v⟩ := id h
  have hx' := hx
  have hz' := hz
  have hw' := hw
  unfold i32 at hx' hz' hw'
  have c118 := sp_118 c.1 v.1 hx hz
  have c150 : ∀ t : gx_S, t.1 216 = f → gm_150 t = some (decide (f 2 = 7), t) := fun t et => by
    have := sp_150 (s := t) (by rw [et]; exact v.1.2.1)
    rw [et] at this
    exact this
  have s2 : ∀ y : gx_S, y.1 216 = f → gm_196 x z w y = if ((0 ≤ x ∧ x < 3) ∧ (0 ≤ z ∧ z ≤ 8) ∧ f 2 = 7) ∧ (0 ≤ w ∧ w ≤ 2) then ((gm_181 x y).bind fun q63 => gm_196_63 100000 z w 0 0 (gw2 (gw2 q63 215 29 0) 215 30 1)) else some (-1, y) := fun y ey => by
    unfold gm_196
    rw [c150 y ey, Option.bind_some]
    by_cases h7 : f 2 = 7
    · rw [if_neg (fun q => (gbD s).mp q h7)]
      show ((gm_148 x y).bind _) = _
      rw [sp_148 y hx, Option.bind_some]
      by_cases a : 0 ≤ x ∧ x ≤ 2
      · rw [if_neg (fun q => (gbD s).mp q a), if_pos hz', in_ y hz (by omega) (by omega), Option.bind_some]
        by_cases b : 0 ≤ z ∧ z ≤ 8
        · rw [if_neg (fun q => (gbD s).mp q b), if_pos hw', in_ y hw (by omega) (by omega), Option.bind_some]
          by_cases d : 0 ≤ w ∧ w ≤ 2
          · rw [if_pos (fun q => (gbD s).mp q d), if_pos (show ((0 ≤ x ∧ x < 3) ∧ (0 ≤ z ∧ z ≤ 8) ∧ f 2 = 7) ∧ (0 ≤ w ∧ w ≤ 2) by omega)]
          · rw [if_neg (fun q => q ((gbD s).mpr d)), if_neg (show ¬ (((0 ≤ x ∧ x < 3) ∧ (0 ≤ z ∧ z ≤ 8) ∧ f 2 = 7) ∧ (0 ≤ w ∧ w ≤ 2)) from fun q => d q.2)]
            rfl
        · rw [if_pos ((gbD s).mpr b), if_neg (show ¬ (((0 ≤ x ∧ x < 3) ∧ (0 ≤ z ∧ z ≤ 8) ∧ f 2 = 7) ∧ (0 ≤ w ∧ w ≤ 2)) from fun q => b q.1.2.1)]
          rfl
      · rw [if_pos ((gbD s).mpr a), if_neg (show ¬ (((0 ≤ x ∧ x < 3) ∧ (0 ≤ z ∧ z ≤ 8) ∧ f 2 = 7) ∧ (0 ≤ w ∧ w ≤ 2)) from fun q => a (by have := q.1.1; omega))]
        rfl
    · rw [if_pos ((gbD s).mpr h7), if_neg (show ¬ (((0 ≤ x ∧ x < 3) ∧ (0 ≤ z ∧ z ≤ 8) ∧ f 2 = 7) ∧ (0 ≤ w ∧ w ≤ 2)) from fun q => h7 q.1.2.2)]
      rfl
  by_cases ok : ((0 ≤ x ∧ x < 3) ∧ (0 ≤ z ∧ z ≤ 8) ∧ f 2 = 7) ∧ (0 ≤ w ∧ w ≤ 2)
  · obtain ⟨⟨a, b, h7⟩, d⟩ := id ok
    obtain ⟨g, rfl⟩ : ∃ g : Nat, x = g := ⟨x.toNat, by omega⟩
    obtain ⟨z, rfl⟩ : ∃ z' : Nat, z = z' := ⟨z.toNat, by omega⟩
    have hg : g < 3 := by omega
    obtain ⟨D, u, u1, u2, u3, u4, u5, u6⟩ := CV_ready (w := 2) (by omega) v.1 h7 hg c
    have u1 : gm_19 (71 + 48 * g) 2 s = some u := u1
    have tm := (u4.2.2.2.2.1 u5).2.1
    have kc : KC s u := KG_KC (ga_of hg) u3
    have ru := RV_KC kc r
    have eu : u.1 216 = f := ru.1
    obtain ⟨p1, p2⟩ := PA_mv v.1 h7 hg
    have ht := (ga_of hg).2.2.2.1
    have vr : ∀ x, x < 8 → 0 ≤ vt (PMV f R C g) x ∧ vt (PMV f R C g) x ≤ 864 := fun x hx => vt_r p1 p2 hx
    have e2 : ∀ x, x < 8 → u.1 (71 + 48 * g + 3 + 2) x = vt (PMV f R C g) x := fun x hx => (tm x hx).2.1
    have e7 : ∀ x y, x < 8 → y < 9 → u.1 (71 + 48 * g + 3 + 7) (9 * x + y) = rsv (LV f R C g) (PMV f R C g) x y := fun x y hx hy => ((tm x hx).2.2 y hy).2.2.1
    have e6 : ∀ x y, x < 8 → y < 9 → u.1 (71 + 48 * g + 3 + 6) (9 * x + y) = flv (LV f R C g) (PMV f R C g) x y := fun x y hx hy => ((tm x hx).2.2 y hy).2.1
    have ek : cm (u.1 (71 + 48 * g + 3 + 2)) 8 = cm (vt (PMV f R C g)) 8 := cm_c fun k hk => e2 k hk
    obtain ⟨K, hK⟩ : ∃ K, K = cm (vt (PMV f R C g)) 8 := ⟨_, rfl⟩
    have K0 : 0 < K := by rw [hK]; exact cm_pos _ 8
    have KB : K ≤ 20000000000000000 := by rw [hK]; exact cm_B (fun k hk => (vr k hk).1) p2 (by omega)
    have dv : ∀ x, x < 8 → 0 < vt (PMV f R C g) x → (vt (PMV f R C g) x).toNat ∣ K := fun x hx hp => by rw [hK]; exact cm_dvd hx hp
    have c78 := sp_78 (t := 71 + 48 * g + 3) (s := u) ht (fun k hk => by rw [e2 k hk]; have := vr k hk; omega) (by rw [sg_eq (g := vt (PMV f R C g)) e2]; exact p2)
    rw [ek, ← hK] at c78
    have c79 := sp_79 (t := 71 + 48 * g + 3) (c := z) (s := u) (K := (K : Int)) ht (by omega) (fun k hk => by rw [e2 k hk]; have := vr k hk; omega) (fun k hk => by
      have := e7 (k / 9) (k % 9) (by omega) (by omega)
      rw [show 9 * (k / 9) + k % 9 = k by omega] at this
      rw [this]
      have q := rsv_r p1 (show k / 9 < 8 by omega) (show k % 9 < 9 by omega)
      have q2 := vr (k / 9) (by omega)
      unfold i32
      by_cases y : 0 < vt (PMV f R C g) (k / 9)
      · have := q.2 y
        omega
      · have : rsv (LV f R C g) (PMV f R C g) (k / 9) (k % 9) = 0 := if_pos (show vt (PMV f R C g) (k / 9) ≤ 0 by omega)
        omega) (by omega)
    have ero : ro u (71 + 48 * g + 3) z K = sg (Tx (LV f R C g) (PMV f R C g) z K) 8 := sg_eq fun k hk => by
      rw [e2 k hk, e7 k z hk (by omega)]
      rfl
    rw [ero] at c79
    have c77 := sp_77 (t := 71 + 48 * g + 3) (c := z) (s := u) ht (by omega)
    rw [sg_eq (g := fun x => flv (LV f R C g) (PMV f R C g) x z) fun k hk => e6 k z hk (by omega)] at c77
    obtain ⟨S, hS⟩ : ∃ S, S = sg (Tx (LV f R C g) (PMV f R C g) z K) 8 := ⟨_, rfl⟩
    have Sr : 0 ≤ S ∧ S ≤ 8 * K := by
      rw [hS]
      refine ⟨sg_nn fun x hx => (Tx_r p1 (by omega) dv hx).1, ?_⟩
      have := sg_le (f := Tx (LV f R C g) (PMV f R C g) z K) (g := fun _ => (K : Int) * 1) (n := 8) fun x hx => by
        show _ ≤ (K : Int) * 1
        rw [Int.mul_one]
        exact (Tx_r p1 (by omega) dv hx).2
      rw [sg_mul, sg_one] at this
      omega
    rw [← hS] at c79
    obtain ⟨F, hF⟩ : ∃ F, F = sg (fun x => flv (LV f R C g) (PMV f R C g) x z) 8 := ⟨_, rfl⟩
    rw [← hF] at c77
    have Fr : -2147483648 ≤ F ∧ F ≤ 2147483647 := by
      have b : ∀ x, x < 8 → 0 ≤ flv (LV f R C g) (PMV f R C g) x z ∧ flv (LV f R C g) (PMV f R C g) x z ≤ 100000000 := fun x hx => by
        have q1 := p1.1 x hx
        have q2 := p1.2.1 x z hx (by omega)
        unfold flv
        by_cases y : sg (fun y => PMV f R C g x y) 9 ≤ 0
        · rw [if_pos y]
          omega
        · rw [if_neg y]
          have q3 : PMV f R C g x z ≤ sg (fun y => PMV f R C g x y) 9 := sg_at (f := fun y => PMV f R C g x y) (n := 9) (fun y hy => (p1.2.1 x y hx hy).1) z (by omega)
          refine ⟨Int.ediv_nonneg (Int.mul_nonneg q1.1 q2.1) (by omega), ?_⟩
          have m := Int.ediv_le_ediv (show 0 < sg (fun y => PMV f R C g x y) 9 by omega) (Int.mul_le_mul_of_nonneg_left q3 q1.1)
          rw [Int.mul_ediv_cancel _ (by omega)] at m
          omega
      have l := sg_le (f := fun x => flv (LV f R C g) (PMV f R C g) x z) (g := fun _ => 100000000 * 1) (n := 8) fun x hx => by
        show _ ≤ (100000000 : Int) * 1
        have := (b x hx).2
        omega
      have l0 := sg_nn (f := fun x => flv (LV f R C g) (PMV f R C g) x z) (n := 8) fun x hx => (b x hx).1
      rw [sg_mul, sg_one] at l
      omega
    have m0 := Int.emod_nonneg S (show (K : Int) ≠ 0 by omega)
    have m1 := Int.emod_lt_of_pos S (show (0 : Int) < K by omega)
    obtain ⟨A, hA⟩ : ∃ A : Nat, S % (K : Int) = A := ⟨_, (Int.toNat_of_nonneg m0).symm⟩
    have s1 : gm_100 g z w s = some (if ¬ w = 0 then (if ¬ w - 1 = 0 then (K : Int) else S % K) / ((Nat.gcd (S % K).toNat K : Nat) : Int) else F + S / K, u) := by
      unfold gm_100
      rw [c118, Option.bind_some, if_neg (fun q => (gbD s).mp q ⟨a, b, h7⟩), if_pos hw', if_neg (by omega), if_pos d.2, if_pos a, Option.bind_some, vg_ g hg]
      show ((gm_19 (71 + 48 * g) 2 s).bind _) = _
      rw [u1, Option.bind_some, c78, Option.bind_some]
      show (if (-9223372036854775808 ≤ (K : Int) ∧ (K : Int) ≤ 9223372036854775807) then (if 0 < (K : Int) then ((gm_79 (71 + 48 * g + 3) z K u).bind fun q46 => if ¬ w = 0 then (if 0 ≤ q46.1 ∧ q46.1 ≤ 9223372036854775807 ∧ 0 < (K : Int) ∧ (K : Int) ≤ 9223372036854775807 then ((gm_127 (q46.1 % K) K (w - 1) q46.2).bind fun q51 => some (q51.1, q51.2)) else none) else ((gm_77 (71 + 48 * g + 3) z q46.2).bind fun q53 => if (-2147483648 ≤ q53.1 ∧ q53.1 ≤ 2147483647) then (if 0 ≤ q46.1 ∧ q46.1 ≤ 9223372036854775807 ∧ 0 < (K : Int) ∧ (K : Int) ≤ 9223372036854775807 then some ((q53.1 + (q46.1 / K)), q53.2) else none) else none)) else some ((-1), u)) else none) = _
      rw [if_pos (by omega), if_pos (by omega), c79, Option.bind_some]
      by_cases t : ¬ w = 0
      · rw [if_pos t, if_pos t, if_pos (show 0 ≤ S ∧ S ≤ 9223372036854775807 ∧ 0 < (K : Int) ∧ (K : Int) ≤ 9223372036854775807 by omega)]
        show ((gm_127 (S % K) K (w - 1) u).bind fun q51 => some (q51.1, q51.2)) = _
        rw [hA, sp_127f u (by omega) KB (show i32 (w - 1) by unfold i32; omega), Option.bind_some]
        rfl
      · rw [if_neg t, if_neg t]
        show ((gm_77 (71 + 48 * g + 3) z u).bind fun q53 => if (-2147483648 ≤ q53.1 ∧ q53.1 ≤ 2147483647) then (if 0 ≤ S ∧ S ≤ 9223372036854775807 ∧ 0 < (K : Int) ∧ (K : Int) ≤ 9223372036854775807 then some ((q53.1 + (S / K)), q53.2) else none) else none) = _
        rw [c77, Option.bind_some]
        show (if (-2147483648 ≤ F ∧ F ≤ 2147483647) then (if 0 ≤ S ∧ S ≤ 9223372036854775807 ∧ 0 < (K : Int) ∧ (K : Int) ≤ 9223372036854775807 then some ((F + (S / K)), u) else none) else none) = _
        rw [if_pos Fr, if_pos (by omega)]
    obtain ⟨p, q1, q2, q3, q4, q5⟩ := sp_181 (s := u) (R := R) (C := C) (g := g) (by rw [eu]; exact v.1) (by rw [eu]; exact h7) hg
    rw [eu] at q5
    obtain ⟨y, hy⟩ : ∃ y, y = gw2 (gw2 p 215 29 0) 215 30 1 := ⟨_, rfl⟩
    have y1 : ∀ k i, y.1 k i = p.1 k i := fun k i => by rw [hy]; rfl
    have y2 : ∀ k i, k ≠ 215 → y.2 k i = p.2 k i := fun k i q => by rw [hy, gw2_2, if_neg (by omega), gw2_2, if_neg (by omega)]
    have pS := q2.2.2 ru.2.2.2.2
    have yS : SC y := ⟨fun i hi => by rw [y1, y1, y1, y2 _ _ (by decide)]; exact pS.1 i hi, fun e he => by rw [y1, y2 _ _ (by decide), y2 _ _ (by decide), y2 _ _ (by decide), y2 _ _ (by decide)]; exact pS.2.1 e he, fun k hk => by rw [y2 _ _ (by decide)]; exact pS.2.2 k hk⟩
    have yK : KRw u y := KRw_tr (KR_w q2) ⟨fun k i _ => y1 k i, fun k i q => y2 k i (by omega), fun _ => yS⟩
    obtain ⟨o, o1, o2⟩ := sl_196 (z := z) (w := w) p1 p2 (by omega) hK d 100000 0 y (by omega) (by omega) (by rw [y1]; exact q4) (fun x hx => ⟨by rw [y2 _ _ (by decide)]; exact (q5 x hx).1, fun t ht => by rw [y1]; exact (q5 x hx).2 t ht⟩) (by rw [hy, gw2_2, if_pos ⟨rfl, rfl⟩]; rfl) (by rw [hy, gw2_2, if_neg (by omega), gw2_2, if_pos ⟨rfl, rfl⟩, Int.zero_mul]; rfl) yS
    have o1 : gm_196_63 100000 z w 0 0 y = _ := o1
    have s2 := s2 u eu
    rw [if_pos ok, q1, Option.bind_some, ← hy, o1, ← hS, ← hF] at s2
    exact ⟨_, u, o, s1, s2, q_inv kc u2 r v (KRw_tr yK o2)⟩
  · refine ⟨-1, s, s, ?_, (s2 s r.1).trans (if_neg ok), h⟩
    unfold gm_100
    rw [c118, Option.bind_some]
    by_cases a : (0 ≤ x ∧ x < 3) ∧ (0 ≤ z ∧ z ≤ 8) ∧ f 2 = 7
    · rw [if_neg (fun q => (gbD s).mp q a), if_pos hw']
      by_cases d : w < 0
      · rw [if_pos d]
        rfl
      · rw [if_neg d, if_neg (fun q => ok ⟨a, by omega, q⟩)]
        rfl
    · rw [if_pos ((gbD s).mpr a)]
      rfl
end
section
/-! QUERIES: apart: sets of zones -/
theorem bs_9 : ∀ v : Nat, v < 512 → ∀ c : Nat, c < 9 → 0 ≤ bset v c ∧ bset v c < 512 := by decide +kernel
theorem or_0 : ∀ v : Nat, v < 512 → (Int32.ofInt (v : Nat) ||| Int32.ofInt 0).toInt = (v : Nat) := by decide +kernel
def z0_ : gx_S := (fun _ _ => 0, fun _ _ => 0)
def bc_ (v : Int) : Int := match gm_230 v z0_ with
  | some q => q.1
  | none => 0
def nz_ (v : Int) : Int := match gm_229 v z0_ with
  | some q => q.1
  | none => 0
theorem sp_230 (v : Int) (s : gx_S) : gm_230 v s = some (bc_ v, s) := rfl
def b8_ (v : Int) : Int := ((Int32.ofInt (((Int32.ofInt v >>> (Int32.ofInt 8 &&& 31))).toInt) &&& Int32.ofInt 1)).toInt
theorem bc_r : ∀ v : Nat, v < 512 → 0 ≤ bc_ v ∧ bc_ v ≤ 9 := by decide +kernel
theorem b8_r : ∀ v : Nat, v < 512 → b8_ v = 0 ∨ b8_ v = 1 := by decide +kernel
theorem bc_1 : ∀ v : Nat, v < 512 → bc_ v = 1 → b8_ v = 0 → ∃ o, o < 8 ∧ v = 2 ^ o := by decide +kernel
theorem bc_2 : ∀ o : Nat, o < 8 → bc_ ((2 ^ o : Nat) : Int) = 1 ∧ b8_ ((2 ^ o : Nat) : Int) = 0 ∧ ((Int32.ofInt 1 <<< (Int32.ofInt (o : Nat) &&& 31))).toInt = ((2 ^ o : Nat) : Int) := by decide +kernel
end
section
/-! QUERIES: apart: the zones met -/
def st_ (s : gx_S) (q : Int × gx_S) : Int × gx_S := (q.1, s)
theorem nz_62 (a b : Int) (s : gx_S) : gm_229_62 a b s = (gm_229_62 a b z0_).map (st_ s) := by
  unfold gm_229_62
  by_cases h1 : -2147483648 ≤ a ∧ a ≤ 2147483647
  · rw [if_pos h1, if_pos h1]
    by_cases h2 : a ≤ 4
    · rw [if_pos h2, if_pos h2]
      rfl
    · rw [if_neg h2, if_neg h2]
      rfl
  · rw [if_neg h1, if_neg h1]
    rfl
theorem nz_49 (a b : Int) (s : gx_S) : gm_229_49 a b s = (gm_229_49 a b z0_).map (st_ s) := by
  unfold gm_229_49
  by_cases h1 : -2147483648 ≤ a ∧ a ≤ 2147483647
  · rw [if_pos h1, if_pos h1]
    by_cases h2 : a ≤ 16
    · rw [if_pos h2, if_pos h2]
      exact nz_62 _ _ s
    · rw [if_neg h2, if_neg h2]
      exact nz_62 _ _ s
  · rw [if_neg h1, if_neg h1]
    rfl
theorem nz_34 (a b : Int) (s : gx_S) : gm_229_34 a b s = (gm_229_34 a b z0_).map (st_ s) := by
  unfold gm_229_34
  by_cases h1 : -2147483648 ≤ a ∧ a ≤ 2147483647
  · rw [if_pos h1, if_pos h1]
    by_cases h2 : a ≤ 256
    · rw [if_pos h2, if_pos h2]
      exact nz_49 _ _ s
    · rw [if_neg h2, if_neg h2]
      exact nz_49 _ _ s
  · rw [if_neg h1, if_neg h1]
    rfl
theorem nz_s (v : Int) (s : gx_S) : gm_229 v s = (gm_229 v z0_).map (st_ s) := by
  unfold gm_229
  by_cases h1 : -2147483648 ≤ ((Int32.ofInt (((Int32.ofInt v ^^^ Int32.ofInt (-1))).toInt) &&& Int32.ofInt (v - 1))).toInt ∧ ((Int32.ofInt (((Int32.ofInt v ^^^ Int32.ofInt (-1))).toInt) &&& Int32.ofInt (v - 1))).toInt ≤ 2147483647
  · rw [if_pos h1, if_pos h1]
    by_cases h2 : 0 < ((Int32.ofInt (((Int32.ofInt v ^^^ Int32.ofInt (-1))).toInt) &&& Int32.ofInt (v - 1))).toInt
    · rw [if_pos h2, if_pos h2]
      by_cases h3 : ((Int32.ofInt (((Int32.ofInt v ^^^ Int32.ofInt (-1))).toInt) &&& Int32.ofInt (v - 1))).toInt ≤ 65536
      · rw [if_pos h3, if_pos h3]
        exact nz_34 _ _ s
      · rw [if_neg h3, if_neg h3]
        exact nz_34 _ _ s
    · rw [if_neg h2, if_neg h2]
      rfl
  · rw [if_neg h1, if_neg h1]
    rfl
theorem nz_2 : ∀ o : Nat, o < 8 → (gm_229 ((2 ^ o : Nat) : Int) z0_).map (fun q => q.1) = some (o : Int) := by decide +kernel
theorem sp_229 {o : Nat} (h : o < 8) (s : gx_S) : gm_229 ((2 ^ o : Nat) : Int) s = some ((o : Int), s) := by
  have a := nz_2 o h
  rw [nz_s]
  cases e : gm_229 ((2 ^ o : Nat) : Int) z0_ with
  | none =>
    rw [e] at a
    exact absurd a (by intro h; cases h)
  | some q =>
    rw [e] at a
    have a : some q.1 = some (o : Int) := a
    show some (q.1, s) = _
    rw [Option.some.inj a]
/-- the new zones met by zone x in the first k cells, as bits -/
def mbs (f : Nat → Int) (C : Nat) (x : Int) : Nat → Int
  | 0 => 0
  | k + 1 => if f (52 + 96 * 0 + 12 * (k / C) + k % C) = x then bset (mbs f C x k) (f (52 + 96 * 1 + 12 * (k / C) + k % C)) else mbs f C x k
/-- OLD and NEW are told -/
abbrev TT (f : Nat → Int) : Prop := f 2 / 2 ^ 0 % 2 = 1 ∧ f 2 / 2 ^ 1 % 2 = 1
theorem old_r {f : Nat → Int} {R C k : Nat} (M : MP f R C) (T : TT f) (hk : k < R * C) : (0 ≤ f (52 + 96 * 0 + 12 * (k / C) + k % C) ∧ f (52 + 96 * 0 + 12 * (k / C) + k % C) ≤ 8) ∧ 0 ≤ f (52 + 96 * 1 + 12 * (k / C) + k % C) ∧ f (52 + 96 * 1 + 12 * (k / C) + k % C) ≤ 8 := by
  have a := M.2.2.2.2.2.2.2.1 0 (by omega) T.1 k hk
  have b := M.2.2.2.2.2.2.2.1 1 (by omega) T.2 k hk
  rw [if_neg (by omega)] at a b
  exact ⟨a, b⟩
theorem mbs_r {f : Nat → Int} {R C : Nat} {x : Int} (M : MP f R C) (T : TT f) : ∀ k, k ≤ R * C → 0 ≤ mbs f C x k ∧ mbs f C x k < 512 := by
  intro k
  induction k with
  | zero => intro _; exact (show (0 : Int) ≤ 0 ∧ (0 : Int) < 512 by decide)
  | succ k ih =>
    intro hk
    obtain ⟨i1, i2⟩ := ih (by omega)
    obtain ⟨_, n1, n2⟩ := old_r M T (show k < R * C by omega)
    have e : mbs f C x (k + 1) = if f (52 + 96 * 0 + 12 * (k / C) + k % C) = x then bset (mbs f C x k) (f (52 + 96 * 1 + 12 * (k / C) + k % C)) else mbs f C x k := rfl
    rw [e]
    split
    · have b := bs_9 (mbs f C x k).toNat (by omega) (f (52 + 96 * 1 + 12 * (k / C) + k % C)).toNat (by omega)
      rw [Int.toNat_of_nonneg i1, Int.toNat_of_nonneg n1] at b
      exact b
    · exact ⟨i1, i2⟩
theorem sp_60h {s : gx_S} {f : Nat → Int} {R C k : Nat} (m : MR s 1 f R C) (M : MP f R C) (T : TT f) (hk : k < R * C) : gm_60 1 0 k s = some (f (52 + 96 * 0 + 12 * (k / C) + k % C), s) ∧ gm_60 1 1 k s = some (f (52 + 96 * 1 + 12 * (k / C) + k % C), s) := by
  have hRC := RC_96 M.1.2.2.1 M.1.2.2.2
  have m9 := m.2.2.2.2.2.2.2.2
  refine ⟨?_, ?_⟩
  · have c : gm_60 1 0 k s = _ := sp_60 (s := s) (a := 1) (by decide +kernel) 0 k (by omega) (by omega)
    rw [c, m9 0 (by omega) T.1 k hk]
  · have c : gm_60 1 1 k s = _ := sp_60 (s := s) (a := 1) (by decide +kernel) 1 k (by omega) (by omega)
    rw [c, m9 1 (by omega) T.2 k hk]
theorem sl_65 {s : gx_S} {f : Nat → Int} {R C : Nat} {x : Int} (m : MR s 1 f R C) (M : MP f R C) (T : TT f) (hx : i32 x) : ∀ (n k : Nat), R * C < n + k → k ≤ R * C → gm_65_10 n 1 x ((R * C : Nat) : Int) (mbs f C x k) k s = some (mbs f C x (R * C), s) := by
  have hRC := RC_96 M.1.2.2.1 M.1.2.2.2
  unfold i32 at hx
  intro n
  induction n with
  | zero => intro k h; omega
  | succ n ih =>
    intro k h hk
    rw [gm_65_10, if_pos (by omega), if_pos (by omega)]
    by_cases q : k = R * C
    · rw [if_pos (by omega), ← q]
    · obtain ⟨c0, c1⟩ := sp_60h m M T (show k < R * C by omega)
      obtain ⟨⟨o1, o2⟩, n1, n2⟩ := old_r M T (show k < R * C by omega)
      have ce : ((k : Int) + 1) = ((k + 1 : Nat) : Int) := rfl
      have e : mbs f C x (k + 1) = if f (52 + 96 * 0 + 12 * (k / C) + k % C) = x then bset (mbs f C x k) (f (52 + 96 * 1 + 12 * (k / C) + k % C)) else mbs f C x k := rfl
      rw [if_neg (by omega), c0, Option.bind_some, if_pos (by omega), if_pos hx]
      by_cases z : f (52 + 96 * 0 + 12 * (k / C) + k % C) = x
      · rw [if_pos z] at e
        rw [if_neg (fun t => t z)]
        show ((gm_60 1 1 k s).bind _) = _
        rw [c1, Option.bind_some]
        unfold gm_65_39
        show gm_65_10 n 1 x ((R * C : Nat) : Int) (bset (mbs f C x k) (f (52 + 96 * 1 + 12 * (k / C) + k % C))) ((k : Int) + 1) s = _
        rw [← e, ce]
        exact ih (k + 1) (by omega) (by omega)
      · rw [if_neg z] at e
        rw [if_pos z]
        unfold gm_65_39
        rw [← e, ce]
        exact ih (k + 1) (by omega) (by omega)
theorem sp_65 {s : gx_S} {f : Nat → Int} {R C : Nat} {x : Int} (m : MR s 1 f R C) (M : MP f R C) (T : TT f) (hx : i32 x) : gm_65 1 x s = some (mbs f C x (R * C), s) := by
  have hRC := RC_96 M.1.2.2.1 M.1.2.2.2
  unfold gm_65
  rw [if_pos (by decide +kernel), sp_58 (MR_cz m M), Option.bind_some]
  exact sl_65 m M T hx 100000 0 (by omega) (by omega)
theorem sl_221 {s : gx_S} {f : Nat → Int} {R C : Nat} {x : Int} (ef : s.1 216 = f) (M : MP f R C) (T : TT f) (hx : i32 x) : ∀ (n k : Nat), R * C < n + k → k ≤ R * C → gm_221_4 n x (mbs f C x k) k s = some (mbs f C x (R * C), s) := by
  have hRC := RC_96 M.1.2.2.1 M.1.2.2.2
  have hz : mz s R C := by
    unfold mz
    rw [ef]
    exact M.1
  have ec : s.1 216 0 * s.1 216 1 = ((R * C : Nat) : Int) := by rw [hz.1, hz.2.1, Int.natCast_mul]
  unfold i32 at hx
  intro n
  induction n with
  | zero => intro k h; omega
  | succ n ih =>
    intro k h hk
    rw [gm_221_4, sp_151, Option.bind_some, ec, if_pos (by omega), if_pos (by omega)]
    by_cases q : k = R * C
    · rw [if_pos (by omega), ← q]
    · have c0 := sp_152 hz 0 k (by omega) (by omega)
      have c1 := sp_152 hz 1 k (by omega) (by omega)
      have e0 : cdx s C 0 k = f (52 + 96 * 0 + 12 * (k / C) + k % C) := by rw [← ef]; rfl
      have e1 : cdx s C 1 k = f (52 + 96 * 1 + 12 * (k / C) + k % C) := by rw [← ef]; rfl
      rw [e0] at c0
      rw [e1] at c1
      have c0 : gm_152 0 k s = _ := c0
      have c1 : gm_152 1 k s = _ := c1
      obtain ⟨⟨o1, o2⟩, n1, n2⟩ := old_r M T (show k < R * C by omega)
      obtain ⟨b1, b2⟩ := mbs_r (x := x) M T k hk
      have ce : ((k : Int) + 1) = ((k + 1 : Nat) : Int) := rfl
      have e : mbs f C x (k + 1) = if f (52 + 96 * 0 + 12 * (k / C) + k % C) = x then bset (mbs f C x k) (f (52 + 96 * 1 + 12 * (k / C) + k % C)) else mbs f C x k := rfl
      rw [if_neg (by omega)]
      show ((gm_152 0 k s).bind _) = _
      rw [c0, Option.bind_some, if_pos (by omega), if_pos hx]
      by_cases z : f (52 + 96 * 0 + 12 * (k / C) + k % C) = x
      · rw [if_pos z] at e
        rw [if_neg (fun t => t z)]
        show ((gm_152 1 k s).bind _) = _
        rw [c1, Option.bind_some]
        unfold gm_221_35
        show gm_221_4 n x (bset (mbs f C x k) (f (52 + 96 * 1 + 12 * (k / C) + k % C))) ((k : Int) + 1) s = _
        rw [← e, ce]
        exact ih (k + 1) (by omega) (by omega)
      · rw [if_neg z] at e
        rw [if_pos z]
        unfold gm_221_35
        have o := or_0 (mbs f C x k).toNat (by omega)
        rw [Int.toNat_of_nonneg b1] at o
        rw [o, ← e, ce]
        exact ih (k + 1) (by omega) (by omega)
theorem sp_221 {s : gx_S} {f : Nat → Int} {R C : Nat} {x : Int} (ef : s.1 216 = f) (M : MP f R C) (T : TT f) (hx : i32 x) : gm_221 x s = some (mbs f C x (R * C), s) := by
  have hRC := RC_96 M.1.2.2.1 M.1.2.2.2
  exact sl_221 ef M T hx 100000 0 (by omega) (by omega)
end
section
/-! QUERIES: apart: one zone -/
theorem sl_202 {s : gx_S} {f : Nat → Int} {R C : Nat} {z : Int} (ef : s.1 216 = f) (M : MP f R C) (T : TT f) (hz : i32 z) : ∀ (n k : Nat), R * C < n + k → k ≤ R * C → gm_202_4 n z (sg (fun k => bi (f (52 + 96 * 1 + 12 * (k / C) + k % C) = z)) k) k s = some (NC f R C 1 z, s) := by
  have hRC := RC_96 M.1.2.2.1 M.1.2.2.2
  have hm : mz s R C := by
    unfold mz
    rw [ef]
    exact M.1
  have ec : s.1 216 0 * s.1 216 1 = ((R * C : Nat) : Int) := by rw [hm.1, hm.2.1, Int.natCast_mul]
  unfold i32 at hz
  intro n
  induction n with
  | zero => intro k h; omega
  | succ n ih =>
    intro k h hk
    rw [gm_202_4, sp_151, Option.bind_some, ec, if_pos (by omega), if_pos (by omega)]
    by_cases q : k = R * C
    · rw [if_pos (by omega), q]
      unfold NC
      rw [if_pos T.2]
    · have c1 := sp_152 hm 1 k (by omega) (by omega)
      have e1 : cdx s C 1 k = f (52 + 96 * 1 + 12 * (k / C) + k % C) := by rw [← ef]; rfl
      rw [e1] at c1
      have c1 : gm_152 1 k s = _ := c1
      obtain ⟨_, n1, n2⟩ := old_r M T (show k < R * C by omega)
      have ce : ((k : Int) + 1) = ((k + 1 : Nat) : Int) := rfl
      rw [if_neg (by omega)]
      show ((gm_152 1 k s).bind _) = _
      rw [c1, Option.bind_some, if_pos (by omega), if_pos hz]
      unfold gm_202_28
      by_cases y : f (52 + 96 * 1 + 12 * (k / C) + k % C) = z
      · have b : bi (f (52 + 96 * 1 + 12 * (k / C) + k % C) = z) = 1 := if_pos y
        have st : sg (fun k => bi (f (52 + 96 * 1 + 12 * (k / C) + k % C) = z)) (k + 1) = sg (fun k => bi (f (52 + 96 * 1 + 12 * (k / C) + k % C) = z)) k + 1 := by
          show _ + bi (f (52 + 96 * 1 + 12 * (k / C) + k % C) = z) = _
          rw [b]
        rw [if_neg (fun t => t y), sp_131 (.inr rfl), Option.bind_some, ← st, ce]
        exact ih (k + 1) (by omega) (by omega)
      · have b : bi (f (52 + 96 * 1 + 12 * (k / C) + k % C) = z) = 0 := if_neg y
        have st : sg (fun k => bi (f (52 + 96 * 1 + 12 * (k / C) + k % C) = z)) (k + 1) = sg (fun k => bi (f (52 + 96 * 1 + 12 * (k / C) + k % C) = z)) k + 0 := by
          show _ + bi (f (52 + 96 * 1 + 12 * (k / C) + k % C) = z) = _
          rw [b]
        rw [if_pos y, sp_131 (.inl rfl), Option.bind_some, ← st, ce]
        exact ih (k + 1) (by omega) (by omega)
theorem sp_202 {s : gx_S} {f : Nat → Int} {R C : Nat} {z : Int} (ef : s.1 216 = f) (M : MP f R C) (T : TT f) (hz : i32 z) : gm_202 z s = some (NC f R C 1 z, s) := by
  have hRC := RC_96 M.1.2.2.1 M.1.2.2.2
  exact sl_202 ef M T hz 100000 0 (by omega) (by omega)
theorem sl_125 {s : gx_S} {f : Nat → Int} {R C x : Nat} {v : Int} (m : MR s 1 f R C) (M : MP f R C) (hx : x < 8) (hv : 0 ≤ v ∧ v < 512) : ∀ (n o : Nat), 8 < n + o → o ≤ 8 → (∀ o0, o ≤ o0 → o0 < 8 → v = ((2 ^ o0 : Nat) : Int) → gm_125_52 n x v o s = some (decide (NC f R C 1 o0 = NC f R C 0 x), s)) ∧ ((∀ o0, o ≤ o0 → o0 < 8 → ¬ v = ((2 ^ o0 : Nat) : Int)) → gm_125_52 n x v o s = some (false, s)) := by
  have hRC := RC_96 M.1.2.2.1 M.1.2.2.2
  intro n
  induction n with
  | zero => intro o h; omega
  | succ n ih =>
    intro o h ho
    by_cases q : o = 8
    · refine ⟨fun o0 h1 h2 => by omega, fun _ => ?_⟩
      rw [gm_125_52, if_pos (by omega), if_pos (by omega)]
    · obtain ⟨b1, b2, b3⟩ := bc_2 o (by omega)
      have p8 : 2 ^ o ≤ 2 ^ 8 := Nat.pow_le_pow_right (by omega) (by omega)
      have p8 : 2 ^ o ≤ 256 := p8
      have ce : ((o : Int) + 1) = ((o + 1 : Nat) : Int) := rfl
      have st : gm_125_52 (n + 1) x v o s = if ¬ v = ((2 ^ o : Nat) : Int) then gm_125_52 n x v ((o + 1 : Nat) : Int) s else some (decide (NC f R C 1 o = NC f R C 0 x), s) := by
        have n1 := NC_nn f R C 1 o
        have n0 := NC_nn f R C 0 x
        rw [← Int.natCast_mul] at n1 n0
        have c1 : gm_62 1 1 o s = _ := sp_62g m M 1 o (by omega) (by omega)
        have c0 : gm_62 1 0 x s = _ := sp_62g m M 0 x (by omega) (by omega)
        rw [gm_125_52, if_pos (by omega), if_neg (by omega), if_pos (by omega), b3, if_pos (show -2147483648 ≤ ((2 ^ o : Nat) : Int) ∧ ((2 ^ o : Nat) : Int) ≤ 2147483647 from ⟨Int.le_trans (by decide) (Int.natCast_nonneg _), Int.le_trans (Int.ofNat_le.mpr p8) (by decide)⟩), ce]
        by_cases z : v = ((2 ^ o : Nat) : Int)
        · rw [if_neg (fun t => t z), if_neg (fun t => t z), c1, Option.bind_some]
          show ((gm_62 1 0 x s).bind _) = _
          rw [c0, Option.bind_some]
          show (if (-2147483648 ≤ NC f R C 1 o ∧ NC f R C 1 o ≤ 2147483647) then (if (-2147483648 ≤ NC f R C 0 x ∧ NC f R C 0 x ≤ 2147483647) then (if ¬ NC f R C 1 o = NC f R C 0 x then some (false, s) else some (true, s)) else none) else none) = _
          rw [if_pos (by omega), if_pos (by omega)]
          by_cases y : NC f R C 1 o = NC f R C 0 x
          · rw [if_neg (fun t => t y), decide_eq_true y]
          · rw [if_pos y, decide_eq_false y]
        · rw [if_pos z, if_pos z]
      obtain ⟨i1, i2⟩ := ih (o + 1) (by omega) (by omega)
      refine ⟨fun o0 h1 h2 h3 => ?_, fun h3 => ?_⟩
      · rw [st]
        by_cases e : o0 = o
        · rw [if_neg (fun t => t (by rw [h3, e])), e]
        · have ne : ¬ v = ((2 ^ o : Nat) : Int) := fun t => by
            have l : 2 ^ o < 2 ^ o0 := Nat.pow_lt_pow_right (by omega) (by omega)
            omega
          rw [if_pos ne]
          exact i1 o0 (by omega) h2 h3
      · rw [st, if_pos (h3 o (Nat.le_refl o) (by omega))]
        exact i2 fun o0 h1 h2 => h3 o0 (by omega) h2
theorem la_ {s : gx_S} {f : Nat → Int} {R C x : Nat} {w : Int} (m : MR s 1 f R C) (M : MP f R C) (T : TT f) (hx : x < 8) (hw : w = 1 ∨ w = 2 ∨ w = 3) : ∃ v : Bool, gm_125 x w s = some (v, s) ∧ ∀ t : gx_S, t.1 216 = f → gm_222 x w t = some (v, t) := by
  have hRC := RC_96 M.1.2.2.1 M.1.2.2.2
  have hxi : i32 (x : Int) := by unfold i32; omega
  have c65 := sp_65 m M T hxi
  obtain ⟨m1, m2⟩ := mbs_r (x := (x : Int)) M T (R * C) (Nat.le_refl _)
  obtain ⟨V, hV⟩ : ∃ V : Nat, mbs f C x (R * C) = V := ⟨_, (Int.toNat_of_nonneg m1).symm⟩
  have c221 : ∀ t : gx_S, t.1 216 = f → gm_221 x t = some ((V : Int), t) := fun t et => by rw [← hV]; exact sp_221 et M T hxi
  rw [hV] at c65 m1 m2
  have br := bc_r V (by omega)
  have b8 := b8_r V (by omega)
  have e8 : ((Int32.ofInt (((Int32.ofInt (V : Int) >>> (Int32.ofInt 8 &&& 31))).toInt) &&& Int32.ofInt 1)).toInt = b8_ V := rfl
  unfold gm_125
  rw [c65, Option.bind_some, if_pos (by omega)]
  rcases hw with e | e | e
  · rw [e]
    -- whole zones
    rw [if_pos (show ¬ (1 : Int) = 3 by decide), if_pos (show ¬ (1 : Int) = 2 by decide)]
    obtain ⟨l1, l2⟩ := sl_125 (v := (V : Int)) m M hx (by omega) 100000 0 (by omega) (by omega)
    have r1 : ∀ t : gx_S, t.1 216 = f → gm_222 x 1 t = if ¬ bc_ V = 1 then some (false, t) else (if ¬ b8_ V = 0 then some (false, t) else ((gm_229 V t).bind fun q45 => (gm_202 q45.1 q45.2).bind fun q47 => (gm_158 x q47.2).bind fun q49 => if (-2147483648 ≤ q47.1 ∧ q47.1 ≤ 2147483647) then (if (-2147483648 ≤ q49.1 ∧ q49.1 ≤ 2147483647) then (if ¬ q47.1 = q49.1 then some (false, q49.2) else some (true, q49.2)) else none) else none)) := fun t et => by
      unfold gm_222
      rw [c221 t et, Option.bind_some, if_pos (show (-2147483648 : Int) ≤ 1 ∧ (1 : Int) ≤ 2147483647 by decide), if_neg (show ¬ ¬ (1 : Int) = 1 from fun t => t rfl), sp_230, Option.bind_some]
      show (if (-2147483648 ≤ bc_ (V : Int) ∧ bc_ (V : Int) ≤ 2147483647) then (if ¬ bc_ (V : Int) = 1 then some (false, t) else (if (-2147483648 ≤ b8_ (V : Int) ∧ b8_ (V : Int) ≤ 2147483647) then (if ¬ b8_ (V : Int) = 0 then some (false, t) else _) else none)) else none) = _
      rw [if_pos (by omega)]
      by_cases y : bc_ (V : Int) = 1
      · rw [if_neg (show ¬ ¬ bc_ (V : Int) = 1 from fun t => t y), if_neg (show ¬ ¬ bc_ (V : Int) = 1 from fun t => t y), if_pos (by omega)]
      · rw [if_pos y, if_pos y]
    by_cases ex : ∃ o, o < 8 ∧ V = 2 ^ o
    · obtain ⟨o, ho, eo⟩ := ex
      obtain ⟨b1, b2, b3⟩ := bc_2 o ho
      refine ⟨decide (NC f R C 1 o = NC f R C 0 x), l1 o (by omega) ho (by rw [eo]), fun t et => ?_⟩
      have n1 := NC_nn f R C 1 o
      have n0 := NC_nn f R C 0 x
      rw [← Int.natCast_mul] at n1 n0
      rw [← eo] at b1 b2
      have c158 := sp_158 (s := t) (R := R) (C := C) (by rw [et]; exact M) (by rw [et]; exact T.1) (x : Int) (by omega)
      rw [et] at c158
      rw [r1 t et, if_neg (fun t => t b1), if_neg (fun t => t b2), eo, sp_229 ho t, Option.bind_some, sp_202 et M T (by unfold i32; omega), Option.bind_some]
      show ((gm_158 x t).bind _) = _
      rw [c158, Option.bind_some]
      show (if (-2147483648 ≤ NC f R C 1 o ∧ NC f R C 1 o ≤ 2147483647) then (if (-2147483648 ≤ NC f R C 0 x ∧ NC f R C 0 x ≤ 2147483647) then (if ¬ NC f R C 1 o = NC f R C 0 x then some (false, t) else some (true, t)) else none) else none) = _
      rw [if_pos (by omega), if_pos (by omega)]
      by_cases y : NC f R C 1 o = NC f R C 0 x
      · rw [if_neg (fun t => t y), decide_eq_true y]
      · rw [if_pos y, decide_eq_false y]
    · refine ⟨false, l2 fun o h1 h2 h3 => ex ⟨o, h2, by omega⟩, fun t et => ?_⟩
      rw [r1 t et]
      by_cases y : bc_ V = 1
      · rw [if_neg (fun t => t y), if_pos (fun y2 => ex (bc_1 V (by omega) y y2))]
      · rw [if_pos y]
  · rw [e]
    rw [if_pos (show ¬ (2 : Int) = 3 by decide), if_neg (show ¬ ¬ (2 : Int) = 2 from fun t => t rfl), sp_230, Option.bind_some, if_pos (show -2147483648 ≤ bc_ (V : Int) ∧ bc_ (V : Int) ≤ 2147483647 by omega)]
    have r2 : ∀ t : gx_S, t.1 216 = f → gm_222 x 2 t = if bc_ V ≤ 1 then some (false, t) else some (true, t) := fun t et => by
      unfold gm_222
      rw [c221 t et, Option.bind_some, if_pos (show (-2147483648 : Int) ≤ 2 ∧ (2 : Int) ≤ 2147483647 by decide), if_pos (show ¬ (2 : Int) = 1 by decide), if_neg (show ¬ ¬ (2 : Int) = 2 from fun t => t rfl), sp_230, Option.bind_some, if_pos (show -2147483648 ≤ bc_ (V : Int) ∧ bc_ (V : Int) ≤ 2147483647 by omega)]
    by_cases y : bc_ V ≤ 1
    · exact ⟨false, by rw [if_pos y], fun t et => by rw [r2 t et, if_pos y]⟩
    · exact ⟨true, by rw [if_neg y], fun t et => by rw [r2 t et, if_neg y]⟩
  · rw [e]
    rw [if_neg (show ¬ ¬ (3 : Int) = 3 from fun t => t rfl), e8, if_pos (by omega)]
    have r3 : ∀ t : gx_S, t.1 216 = f → gm_222 x 3 t = if ¬ b8_ V = 1 then some (false, t) else some (true, t) := fun t et => by
      unfold gm_222
      rw [c221 t et, Option.bind_some, if_pos (show (-2147483648 : Int) ≤ 3 ∧ (3 : Int) ≤ 2147483647 by decide), if_pos (show ¬ (3 : Int) = 1 by decide), if_pos (show ¬ (3 : Int) = 2 by decide), e8, if_pos (by omega)]
    by_cases y : b8_ V = 1
    · exact ⟨true, by rw [if_neg (fun t => t y)], fun t et => by rw [r3 t et, if_neg (fun t => t y)]⟩
    · exact ⟨false, by rw [if_pos y], fun t et => by rw [r3 t et, if_pos y]⟩
end
section
/-! QUERIES: apart, whole -/
def ulk (f : Nat → Int) (C n : Nat) : Int := sg (fun k => if f (52 + 96 * 0 + 12 * (k / C) + k % C) = f (52 + 96 * 1 + 12 * (k / C) + k % C) then 0 else 1) n
theorem sl_64 {s : gx_S} {f : Nat → Int} {R C : Nat} (m : MR s 1 f R C) (M : MP f R C) (T : TT f) : ∀ (n k : Nat), R * C < n + k → k ≤ R * C → gm_64_9 n 1 ((R * C : Nat) : Int) (ulk f C k) k s = some (ulk f C (R * C), s) := by
  have hRC := RC_96 M.1.2.2.1 M.1.2.2.2
  intro n
  induction n with
  | zero => intro k h; omega
  | succ n ih =>
    intro k h hk
    rw [gm_64_9, if_pos (by omega), if_pos (by omega)]
    by_cases q : k = R * C
    · rw [if_pos (by omega), ← q]
    · obtain ⟨c0, c1⟩ := sp_60h m M T (show k < R * C by omega)
      obtain ⟨⟨o1, o2⟩, n1, n2⟩ := old_r M T (show k < R * C by omega)
      have ce : ((k : Int) + 1) = ((k + 1 : Nat) : Int) := rfl
      have e : ulk f C (k + 1) = ulk f C k + (if f (52 + 96 * 0 + 12 * (k / C) + k % C) = f (52 + 96 * 1 + 12 * (k / C) + k % C) then 0 else 1) := rfl
      rw [if_neg (by omega), c0, Option.bind_some]
      show ((gm_60 1 1 k s).bind _) = _
      rw [c1, Option.bind_some]
      show (if (-2147483648 ≤ f (52 + 96 * 0 + 12 * (k / C) + k % C) ∧ f (52 + 96 * 0 + 12 * (k / C) + k % C) ≤ 2147483647) then (if (-2147483648 ≤ f (52 + 96 * 1 + 12 * (k / C) + k % C) ∧ f (52 + 96 * 1 + 12 * (k / C) + k % C) ≤ 2147483647) then (if f (52 + 96 * 0 + 12 * (k / C) + k % C) = f (52 + 96 * 1 + 12 * (k / C) + k % C) then gm_64_32 (gm_64_9 n) 1 ((R * C : Nat) : Int) (ulk f C k) k s else gm_64_32 (gm_64_9 n) 1 ((R * C : Nat) : Int) (ulk f C k + 1) k s) else none) else none) = _
      rw [if_pos (by omega), if_pos (by omega)]
      unfold gm_64_32
      by_cases z : f (52 + 96 * 0 + 12 * (k / C) + k % C) = f (52 + 96 * 1 + 12 * (k / C) + k % C)
      · rw [if_pos z, Int.add_zero] at e
        rw [if_pos z, ← e, ce]
        exact ih (k + 1) (by omega) (by omega)
      · rw [if_neg z] at e
        rw [if_neg z, ← e, ce]
        exact ih (k + 1) (by omega) (by omega)
theorem sl_223 {s : gx_S} {f : Nat → Int} {R C : Nat} (ef : s.1 216 = f) (M : MP f R C) (T : TT f) : ∀ (n k : Nat), R * C < n + k → k ≤ R * C → gm_223_34 n 0 (ulk f C k) k s = gm_223_78 0 (ulk f C (R * C)) s := by
  have hRC := RC_96 M.1.2.2.1 M.1.2.2.2
  have hz : mz s R C := by
    unfold mz
    rw [ef]
    exact M.1
  have ec : s.1 216 0 * s.1 216 1 = ((R * C : Nat) : Int) := by rw [hz.1, hz.2.1, Int.natCast_mul]
  intro n
  induction n with
  | zero => intro k h; omega
  | succ n ih =>
    intro k h hk
    rw [gm_223_34, sp_151, Option.bind_some, ec, if_pos (by omega), if_pos (by omega)]
    by_cases q : k = R * C
    · rw [if_pos (by omega), ← q]
    · have c0 := sp_152 hz 0 k (by omega) (by omega)
      have c1 := sp_152 hz 1 k (by omega) (by omega)
      have e0 : cdx s C 0 k = f (52 + 96 * 0 + 12 * (k / C) + k % C) := by rw [← ef]; rfl
      have e1 : cdx s C 1 k = f (52 + 96 * 1 + 12 * (k / C) + k % C) := by rw [← ef]; rfl
      rw [e0] at c0
      rw [e1] at c1
      have c0 : gm_152 0 k s = _ := c0
      have c1 : gm_152 1 k s = _ := c1
      obtain ⟨⟨o1, o2⟩, n1, n2⟩ := old_r M T (show k < R * C by omega)
      have ce : ((k : Int) + 1) = ((k + 1 : Nat) : Int) := rfl
      have e : ulk f C (k + 1) = ulk f C k + (if f (52 + 96 * 0 + 12 * (k / C) + k % C) = f (52 + 96 * 1 + 12 * (k / C) + k % C) then 0 else 1) := rfl
      rw [if_neg (by omega), if_pos (show (-2147483648 : Int) ≤ 0 ∧ (0 : Int) ≤ 2147483647 by decide), if_neg (show ¬ ¬ (0 : Int) = 0 from fun t => t rfl)]
      show ((gm_152 0 k s).bind _) = _
      rw [c0, Option.bind_some]
      show ((gm_152 1 k s).bind _) = _
      rw [c1, Option.bind_some]
      show (if (-2147483648 ≤ f (52 + 96 * 0 + 12 * (k / C) + k % C) ∧ f (52 + 96 * 0 + 12 * (k / C) + k % C) ≤ 2147483647) then (if (-2147483648 ≤ f (52 + 96 * 1 + 12 * (k / C) + k % C) ∧ f (52 + 96 * 1 + 12 * (k / C) + k % C) ≤ 2147483647) then (if f (52 + 96 * 0 + 12 * (k / C) + k % C) = f (52 + 96 * 1 + 12 * (k / C) + k % C) then gm_223_67 (gm_223_34 n) 0 k (ulk f C k) 0 s else gm_223_67 (gm_223_34 n) 0 k (ulk f C k) 1 s) else none) else none) = _
      rw [if_pos (by omega), if_pos (by omega)]
      unfold gm_223_67
      by_cases z : f (52 + 96 * 0 + 12 * (k / C) + k % C) = f (52 + 96 * 1 + 12 * (k / C) + k % C)
      · rw [if_pos z] at e
        rw [if_pos z, sp_131 (.inl rfl), Option.bind_some, ← e, ce]
        exact ih (k + 1) (by omega) (by omega)
      · rw [if_neg z] at e
        rw [if_neg z, sp_131 (.inr rfl), Option.bind_some, ← e, ce]
        exact ih (k + 1) (by omega) (by omega)
theorem sl_110 {s : gx_S} {f : Nat → Int} {R C : Nat} {w : Int} (m : MR s 1 f R C) (M : MP f R C) (T : TT f) (hw : w = 1 ∨ w = 2 ∨ w = 3) : ∀ (n j : Nat) (a : Int), 8 < n + j → j ≤ 8 → ∃ r : Int, gm_110_49 n w a j s = some (r, s) ∧ ∀ t : gx_S, t.1 216 = f → gm_223_80 n w a j t = some (r, t) := by
  intro n
  induction n with
  | zero => intro j a h; omega
  | succ n ih =>
    intro j a h hj
    by_cases q : j = 8
    · refine ⟨a, ?_, fun t et => ?_⟩
      · rw [gm_110_49, if_pos (by omega), if_pos (by omega)]
      · rw [gm_223_80, if_pos (by omega), if_pos (by omega)]
        rfl
    · have ce : ((j : Int) + 1) = ((j + 1 : Nat) : Int) := rfl
      obtain ⟨v, v1, v2⟩ := la_ m M T (show j < 8 by omega) hw
      obtain ⟨r, r1, r2⟩ := ih (j + 1) (a + gb v) (by omega) (by omega)
      refine ⟨r, ?_, fun t et => ?_⟩
      · rw [gm_110_49, if_pos (by omega), if_neg (by omega), v1, Option.bind_some]
        unfold gm_110_67
        cases v with
        | false =>
          rw [if_pos (show gb (false, s).1 = 0 from rfl), ce]
          have e : a + gb false = a := Int.add_zero a
          rw [e] at r1
          exact r1
        | true =>
          rw [if_neg (show ¬ gb (true, s).1 = 0 from (by decide : ¬ gb true = 0)), ce]
          exact r1
      · rw [gm_223_80, if_pos (by omega), if_neg (by omega), if_pos (by omega), if_neg (by omega), v2 t et, Option.bind_some]
        show ((gm_131 (gb v) t).bind _) = _
        rw [sp_131 (show gb v = 0 ∨ gb v = 1 by cases v; exact .inl rfl; exact .inr rfl), Option.bind_some, ce]
        exact r2 t et
theorem inv_apart {s : gx_S} (h : INV s) {x : Int} (hx : i32 x) : two s (gm_110 x) (gm_223 x) := by
  obtain ⟨f, R, C, n, pf, L, tb, c, r, v⟩ := id h
  have hx' := hx
  unfold i32 at hx'
  have hRC := RC_96 v.1.1.2.2.1 v.1.1.2.2.2
  have m := c.1
  have e6 : s.1 1 6 = f 2 := m.2.2.1
  have c0 := sp_56 (s := s) (a := 1) (by decide +kernel) 0 (by omega) (by rw [e6]; exact v.1.2.1)
  have c1 := sp_56 (s := s) (a := 1) (by decide +kernel) 1 (by omega) (by rw [e6]; exact v.1.2.1)
  rw [e6] at c0 c1
  have c0 : gm_56 1 0 s = _ := c0
  have c1 : gm_56 1 1 s = _ := c1
  have d0 := sp_144 (s := s) 0 (by omega) (by rw [r.1]; exact v.1.2.1)
  have d1 := sp_144 (s := s) 1 (by omega) (by rw [r.1]; exact v.1.2.1)
  rw [r.1] at d0 d1
  have d0 : gm_144 0 s = _ := d0
  have d1 : gm_144 1 s = _ := d1
  have s1 : gm_110 x s = if (0 ≤ x ∧ x ≤ 3) ∧ TT f then (if ¬ x = 0 then gm_110_49 100000 x 0 0 s else ((gm_64 1 s).bind fun q29 => some (q29.1, q29.2))) else some (-1, s) := by
    unfold gm_110 TT
    rw [if_pos hx']
    by_cases a : x < 0
    · rw [if_pos a, if_neg (fun q => by have := q.1; omega)]
    · rw [if_neg a]
      by_cases b : 3 < x
      · rw [if_pos b, if_neg (fun q => by have := q.1; omega)]
      · rw [if_neg b, c0, Option.bind_some]
        by_cases d : f 2 / 2 ^ 0 % 2 = 1
        · rw [if_neg (fun q => (gbD s).mp q d)]
          show ((gm_56 1 1 s).bind _) = _
          rw [c1, Option.bind_some]
          by_cases e : f 2 / 2 ^ 1 % 2 = 1
          · rw [if_pos (fun q => (gbD s).mp q e), if_pos (show (0 ≤ x ∧ x ≤ 3) ∧ f 2 / 2 ^ 0 % 2 = 1 ∧ f 2 / 2 ^ 1 % 2 = 1 from ⟨by omega, d, e⟩)]
          · rw [if_neg (fun q => q ((gbD s).mpr e)), if_neg (fun q => e q.2.2)]
        · rw [if_pos ((gbD s).mpr d), if_neg (fun q => d q.2.1)]
  have s2 : gm_223 x s = if (0 ≤ x ∧ x ≤ 3) ∧ TT f then gm_223_34 100000 x 0 0 s else some (-1, s) := by
    unfold gm_223 TT
    rw [if_pos hx', in_ s hx (by omega) (by omega), Option.bind_some]
    by_cases a : 0 ≤ x ∧ x ≤ 3
    · rw [if_neg (fun q => (gbD s).mp q a)]
      show ((gm_144 0 s).bind _) = _
      rw [d0, Option.bind_some]
      by_cases d : f 2 / 2 ^ 0 % 2 = 1
      · rw [if_neg (fun q => (gbD s).mp q d)]
        show ((gm_144 1 s).bind _) = _
        rw [d1, Option.bind_some]
        by_cases e : f 2 / 2 ^ 1 % 2 = 1
        · rw [if_pos (fun q => (gbD s).mp q e), if_pos (show (0 ≤ x ∧ x ≤ 3) ∧ f 2 / 2 ^ 0 % 2 = 1 ∧ f 2 / 2 ^ 1 % 2 = 1 from ⟨a, d, e⟩)]
        · rw [if_neg (fun q => q ((gbD s).mpr e)), if_neg (fun q => e q.2.2)]
      · rw [if_pos ((gbD s).mpr d), if_neg (fun q => d q.2.1)]
    · rw [if_pos ((gbD s).mpr a), if_neg (fun q => a q.1)]
  by_cases ok : (0 ≤ x ∧ x ≤ 3) ∧ TT f
  · rw [if_pos ok] at s1 s2
    obtain ⟨a, T⟩ := ok
    by_cases z : x = 0
    · have t1 := sl_64 m v.1 T 100000 0 (by omega) (by omega)
      have t1 : gm_64_9 100000 1 ((R * C : Nat) : Int) 0 0 s = _ := t1
      have g1 : gm_64 1 s = some (ulk f C (R * C), s) := by
        unfold gm_64
        rw [if_pos (by decide +kernel), sp_58 (MR_cz m v.1), Option.bind_some]
        exact t1
      rw [if_neg (fun t => t z), g1, Option.bind_some] at s1
      have t2 := sl_223 r.1 v.1 T 100000 0 (by omega) (by omega)
      have t2 : gm_223_34 100000 0 0 0 s = _ := t2
      rw [z, t2] at s2
      have t3 : gm_223_78 0 (ulk f C (R * C)) s = some (ulk f C (R * C), s) := by
        unfold gm_223_78
        rw [show (100000 : Nat) = 99999 + 1 from rfl, gm_223_80, if_pos (by decide), if_neg (by decide), if_pos (by decide), if_pos (by decide)]
        rfl
      rw [t3] at s2
      rw [z] at s1 ⊢
      exact ⟨_, s, s, s1, s2, h⟩
    · rw [if_pos z] at s1
      obtain ⟨q, q1, q2⟩ := sl_110 m v.1 T (show x = 1 ∨ x = 2 ∨ x = 3 by omega) 100000 0 0 (by omega) (by omega)
      have q1 : gm_110_49 100000 x 0 0 s = _ := q1
      have q2 := q2 s r.1
      have q2 : gm_223_80 100000 x 0 0 s = _ := q2
      have ec : s.1 216 0 * s.1 216 1 = ((R * C : Nat) : Int) := by rw [r.1, v.1.1.1, v.1.1.2.1, Int.natCast_mul]
      have t2 : gm_223_34 100000 x 0 0 s = gm_223_80 100000 x 0 0 s := by
        rw [show gm_223_34 100000 x 0 0 s = gm_223_34 (99999 + 1) x 0 0 s from rfl, gm_223_34, sp_151, Option.bind_some, ec, if_pos (by decide), if_pos (by omega)]
        by_cases y : ((R * C : Nat) : Int) ≤ 0
        · rw [if_pos y]
          rfl
        · rw [if_neg y, if_pos hx', if_pos z]
          rfl
      exact ⟨q, s, s, s1.trans q1, s2.trans (t2.trans q2), h⟩
  · rw [if_neg ok] at s1 s2
    exact ⟨-1, s, s, s1, s2, h⟩
end
section
/-! QUERIES: piece: the class's count -/
/-- the place of a cell's piece (288 and more: none) -/
def plc (f : Nat → Int) (C k : Nat) : Nat := if co f C 0 k < 8 then (co f C 0 k * 9 + co f C 1 k) * 4 + co f C 2 k else 288
def pcs (f : Nat → Int) (C p n : Nat) : Int := sg (fun k => if plc f C k = p then 1 else 0) n
theorem pcs_r (f : Nat → Int) (C p : Nat) : ∀ n : Nat, 0 ≤ pcs f C p n ∧ pcs f C p n ≤ n := by
  intro n
  induction n with
  | zero => exact (show (0 : Int) ≤ 0 ∧ (0 : Int) ≤ 0 by decide)
  | succ n ih =>
    have e : pcs f C p (n + 1) = pcs f C p n + (if plc f C n = p then 1 else 0) := rfl
    rw [e]
    split <;> omega
def nps (f : Nat → Int) (C n j : Nat) : Int := sg (fun p => bi (0 < pcs f C p n)) j
theorem plc_r {f : Nat → Int} {R C k : Nat} (M : MP f R C) (h7 : f 2 = 7) (hk : k < R * C) (h : co f C 0 k < 8) : plc f C k = (co f C 0 k * 9 + co f C 1 k) * 4 + co f C 2 k ∧ plc f C k < 288 := by
  obtain ⟨_, ⟨_, c1⟩, _, c2⟩ := co_s M h7 hk
  have e : plc f C k = (co f C 0 k * 9 + co f C 1 k) * 4 + co f C 2 k := if_pos h
  rw [e]
  omega
theorem nps_s {f : Nat → Int} {C n p : Nat} (hp : plc f C n = p) (h : p < 288) : nps f C (n + 1) 288 = nps f C n 288 + (if pcs f C p n = 0 then 1 else 0) := by
  have r := pcs_r f C p n
  have e : pcs f C p (n + 1) = pcs f C p n + 1 := by
    show pcs f C p n + (if plc f C n = p then 1 else 0) = _
    rw [if_pos hp]
  refine sg_upd (i := p) ?_ (fun q hq => ?_) h
  · show bi (0 < pcs f C p (n + 1)) = bi (0 < pcs f C p n) + _
    rw [e]
    unfold bi
    rw [if_pos (by omega)]
    by_cases z : pcs f C p n = 0
    · rw [if_neg (by omega), if_pos z]
      rfl
    · rw [if_pos (by omega), if_neg z]
      rfl
  · show bi (0 < pcs f C q (n + 1)) = bi (0 < pcs f C q n)
    have e : pcs f C q (n + 1) = pcs f C q n := by
      show pcs f C q n + (if plc f C n = q then 1 else 0) = _
      rw [if_neg (by omega), Int.add_zero]
    rw [e]
theorem sl_123 {f : Nat → Int} {R C : Nat} (M : MP f R C) (h7 : f 2 = 7) : ∀ (n k : Nat) (s : gx_S), R * C < n + k → k ≤ R * C → MR s 1 f R C → (∀ p, p < 288 → s.1 69 p = pcs f C p k) → ∃ u : gx_S, gm_123_20 n (nps f C k 288) ((R * C : Nat) : Int) k s = some (nps f C (R * C) 288, u) ∧ u.2 = s.2 ∧ (∀ k i, k ≠ 69 → u.1 k i = s.1 k i) ∧ ∀ p, p < 288 → u.1 69 p = pcs f C p (R * C) := by
  have hRC := RC_96 M.1.2.2.1 M.1.2.2.2
  intro n
  induction n with
  | zero => intro k s h; omega
  | succ n ih =>
    intro k s h hk m e
    rw [gm_123_20, if_pos (by omega), if_pos (by omega)]
    by_cases q : k = R * C
    · rw [if_pos (by omega), ← q]
      exact ⟨s, rfl, rfl, fun _ _ _ => rfl, e⟩
    · obtain ⟨g0, g1, g2⟩ := sp_60g m M h7 (show k < R * C by omega)
      obtain ⟨⟨_, c0⟩, ⟨_, c1⟩, _, c2⟩ := co_s M h7 (show k < R * C by omega)
      have ce : ((k : Int) + 1) = ((k + 1 : Nat) : Int) := rfl
      rw [if_neg (by omega), g0, Option.bind_some, if_pos (by omega)]
      by_cases z : 8 ≤ co f C 0 k
      · have np : ∀ p, p < 288 → pcs f C p (k + 1) = pcs f C p k := fun p hp => by
          show pcs f C p k + (if plc f C k = p then 1 else 0) = _
          have e8 : plc f C k = 288 := if_neg (by omega)
          rw [e8, if_neg (by omega), Int.add_zero]
        have nn : nps f C (k + 1) 288 = nps f C k 288 := sg_eq fun p hp => by rw [np p hp]
        rw [if_pos (by omega)]
        unfold gm_123_101
        rw [← nn, ce]
        exact ih (k + 1) s (by omega) (by omega) m fun p hp => by rw [e p hp, np p hp]
      · obtain ⟨p1, p2⟩ := plc_r M h7 (show k < R * C by omega) (by omega)
        obtain ⟨p, hp⟩ : ∃ p, p = plc f C k := ⟨_, rfl⟩
        rw [← hp] at p1 p2
        have ei : ((((co f C 0 k : Int) * 9 + (co f C 1 k : Int)) * 4) + (co f C 2 k : Int)) = (p : Int) := by omega
        have pr := pcs_r f C p k
        rw [if_neg (by omega)]
        show ∃ u : gx_S, ((gm_60 1 1 k s).bind _) = _ ∧ _
        rw [g1, Option.bind_some]
        show ∃ u : gx_S, ((gm_60 1 2 k s).bind _) = _ ∧ _
        rw [g2, Option.bind_some]
        show ∃ u : gx_S, (if 0 ≤ ((((co f C 0 k : Int) * 9 + (co f C 1 k : Int)) * 4) + (co f C 2 k : Int)) ∧ ((((co f C 0 k : Int) * 9 + (co f C 1 k : Int)) * 4) + (co f C 2 k : Int)) < 288 then (if (-2147483648 ≤ (s.1 69 (((((co f C 0 k : Int) * 9 + (co f C 1 k : Int)) * 4) + (co f C 2 k : Int))).toNat) ∧ (s.1 69 (((((co f C 0 k : Int) * 9 + (co f C 1 k : Int)) * 4) + (co f C 2 k : Int))).toNat) ≤ 2147483647) then (if ¬ (s.1 69 (((((co f C 0 k : Int) * 9 + (co f C 1 k : Int)) * 4) + (co f C 2 k : Int))).toNat) = 0 then gm_123_88 (gm_123_20 n) ((R * C : Nat) : Int) k ((((co f C 0 k : Int) * 9 + (co f C 1 k : Int)) * 4) + (co f C 2 k : Int)) (nps f C k 288) 0 s else gm_123_88 (gm_123_20 n) ((R * C : Nat) : Int) k ((((co f C 0 k : Int) * 9 + (co f C 1 k : Int)) * 4) + (co f C 2 k : Int)) (nps f C k 288) 1 s) else none) else none) = _ ∧ _
        rw [ei, if_pos (by omega), show ((p : Int)).toNat = p by omega, e p p2, if_pos (by omega)]
        have ns := nps_s hp.symm p2
        have tail : ∀ v : Int, nps f C (k + 1) 288 = nps f C k 288 + v → gm_123_88 (gm_123_20 n) ((R * C : Nat) : Int) k p (nps f C k 288) v s = gm_123_20 n (nps f C (k + 1) 288) ((R * C : Nat) : Int) ((k + 1 : Nat) : Int) (gw1 s 69 p (pcs f C p k + 1)) := fun v hv => by
          unfold gm_123_88 gm_123_101
          rw [if_pos (by omega), show ((p : Int)).toNat = p by omega, e p p2, ← hv, ce]
        have st : (if ¬ pcs f C p k = 0 then gm_123_88 (gm_123_20 n) ((R * C : Nat) : Int) k p (nps f C k 288) 0 s else gm_123_88 (gm_123_20 n) ((R * C : Nat) : Int) k p (nps f C k 288) 1 s) = gm_123_20 n (nps f C (k + 1) 288) ((R * C : Nat) : Int) ((k + 1 : Nat) : Int) (gw1 s 69 p (pcs f C p k + 1)) := by
          by_cases y : pcs f C p k = 0
          · rw [if_pos y] at ns
            rw [if_neg (fun t => t y)]
            exact tail 1 ns
          · rw [if_neg y] at ns
            rw [if_pos y]
            exact tail 0 ns
        rw [st]
        obtain ⟨u, u1, u2, u3, u4⟩ := ih (k + 1) (gw1 s 69 p (pcs f C p k + 1)) (by omega) (by omega) (MR_o (fun k' j q1 q2 => by rw [gw1_1, if_neg (by omega)]) m) fun t ht => by
          rw [gw1_1]
          show _ = pcs f C t k + (if plc f C k = t then 1 else 0)
          by_cases y : t = p
          · rw [if_pos ⟨rfl, y⟩, y, if_pos hp.symm]
          · rw [if_neg (fun q => y q.2), if_neg (by omega), e t ht, Int.add_zero]
        exact ⟨u, u1, u2, fun k i h1 => by rw [u3 k i h1, gw1_1, if_neg (fun q => h1 q.1)], u4⟩
end
section
/-! QUERIES: piece: the reference's count, places -/
theorem sl_219 {s : gx_S} {f : Nat → Int} {R C p : Nat} (ef : s.1 216 = f) (M : MP f R C) (h7 : f 2 = 7) (hp : p < 288) : ∀ (n k : Nat), R * C < n + k → k ≤ R * C → gm_219_6 n ((p / 36 : Nat) : Int) ((p / 4 % 9 : Nat) : Int) ((p % 4 : Nat) : Int) (pcs f C p k) k s = some (pcs f C p (R * C), s) := by
  have hRC := RC_96 M.1.2.2.1 M.1.2.2.2
  have hm : mz s R C := by
    unfold mz
    rw [ef]
    exact M.1
  have ec : s.1 216 0 * s.1 216 1 = ((R * C : Nat) : Int) := by rw [hm.1, hm.2.1, Int.natCast_mul]
  intro n
  induction n with
  | zero => intro k h; omega
  | succ n ih =>
    intro k h hk
    rw [gm_219_6, sp_151, Option.bind_some, ec, if_pos (by omega), if_pos (by omega)]
    by_cases q : k = R * C
    · rw [if_pos (by omega), ← q]
    · obtain ⟨⟨e0, c0⟩, ⟨e1, c1⟩, e2, c2⟩ := co_s M h7 (show k < R * C by omega)
      have g0 := sp_152 hm 0 k (by omega) (by omega)
      have g1 := sp_152 hm 1 k (by omega) (by omega)
      have g2 := sp_152 hm 2 k (by omega) (by omega)
      have x0 : cdx s C 0 k = co f C 0 k := by rw [← e0, ← ef]; rfl
      have x1 : cdx s C 1 k = co f C 1 k := by rw [← e1, ← ef]; rfl
      have x2 : cdx s C 2 k = co f C 2 k := by rw [← e2, ← ef]; rfl
      rw [x0] at g0
      rw [x1] at g1
      rw [x2] at g2
      have g0 : gm_152 0 k s = _ := g0
      have g1 : gm_152 1 k s = _ := g1
      have g2 : gm_152 2 k s = _ := g2
      have ce : ((k : Int) + 1) = ((k + 1 : Nat) : Int) := rfl
      have e : pcs f C p (k + 1) = pcs f C p k + (if plc f C k = p then 1 else 0) := rfl
      have ip : plc f C k = p ↔ (co f C 0 k = p / 36 ∧ co f C 1 k = p / 4 % 9 ∧ co f C 2 k = p % 4) := by
        unfold plc
        by_cases z : co f C 0 k < 8
        · rw [if_pos z]
          omega
        · rw [if_neg z]
          omega
      have t0 : ¬ plc f C k = p → gm_219_55 (gm_219_6 n) ((p / 36 : Nat) : Int) ((p / 4 % 9 : Nat) : Int) ((p % 4 : Nat) : Int) k (pcs f C p k) 0 s = some (pcs f C p (R * C), s) := fun z => by
        rw [if_neg z] at e
        unfold gm_219_55
        rw [sp_131 (.inl rfl), Option.bind_some, ← e, ce]
        exact ih (k + 1) (by omega) (by omega)
      rw [if_neg (by omega)]
      show ((gm_152 0 k s).bind _) = _
      rw [g0, Option.bind_some, if_pos (by omega), if_pos (by omega)]
      by_cases z0 : co f C 0 k = p / 36
      · rw [if_neg (show ¬ ¬ (co f C 0 k : Int) = ((p / 36 : Nat) : Int) by omega)]
        show ((gm_152 1 k s).bind _) = _
        rw [g1, Option.bind_some, if_pos (by omega), if_pos (by omega)]
        by_cases z1 : co f C 1 k = p / 4 % 9
        · rw [if_neg (show ¬ ¬ (co f C 1 k : Int) = ((p / 4 % 9 : Nat) : Int) by omega)]
          show ((gm_152 2 k s).bind _) = _
          rw [g2, Option.bind_some, if_pos (by omega), if_pos (by omega)]
          by_cases z2 : co f C 2 k = p % 4
          · rw [if_neg (show ¬ ¬ (co f C 2 k : Int) = ((p % 4 : Nat) : Int) by omega)]
            rw [if_pos (ip.mpr ⟨z0, z1, z2⟩)] at e
            unfold gm_219_55
            rw [sp_131 (.inr rfl), Option.bind_some, ← e, ce]
            exact ih (k + 1) (by omega) (by omega)
          · rw [if_pos (show ¬ (co f C 2 k : Int) = ((p % 4 : Nat) : Int) by omega)]
            exact t0 fun y => z2 (ip.mp y).2.2
        · rw [if_pos (show ¬ (co f C 1 k : Int) = ((p / 4 % 9 : Nat) : Int) by omega)]
          exact t0 fun y => z1 (ip.mp y).2.1
      · rw [if_pos (show ¬ (co f C 0 k : Int) = ((p / 36 : Nat) : Int) by omega)]
        exact t0 fun y => z0 (ip.mp y).1
theorem sp_219 {s : gx_S} {f : Nat → Int} {R C p : Nat} (ef : s.1 216 = f) (M : MP f R C) (h7 : f 2 = 7) (hp : p < 288) : gm_219 ((p : Int) / 36) (((p : Int) / 4) % 9) ((p : Int) % 4) s = some (pcs f C p (R * C), s) := by
  have hRC := RC_96 M.1.2.2.1 M.1.2.2.2
  exact sl_219 ef M h7 hp 100000 0 (by omega) (by omega)
/-- the pieces ahead of place j -/
def npj (f : Nat → Int) (C n j : Nat) : Int := sg (fun p => bi (0 < pcs f C p n)) j
theorem npj_r (f : Nat → Int) (C n : Nat) : ∀ j : Nat, 0 ≤ npj f C n j ∧ npj f C n j ≤ j := by
  intro j
  induction j with
  | zero => exact (show (0 : Int) ≤ 0 ∧ (0 : Int) ≤ 0 by decide)
  | succ j ih =>
    have e : npj f C n (j + 1) = npj f C n j + bi (0 < pcs f C j n) := rfl
    have := bi_r (0 < pcs f C j n)
    omega
/-- the k-th piece: on both sides the same place -/
theorem sl_124 {f : Nat → Int} {R C : Nat} {x w : Int} {s : gx_S} (M : MP f R C) (h7 : f 2 = 7) (hw : 0 ≤ w ∧ w ≤ 3) (hx : 0 ≤ x) (e : ∀ p, p < 288 → s.1 69 p = pcs f C p (R * C)) : ∀ (n j : Nat), 288 < n + j → j ≤ 288 → npj f C (R * C) j ≤ x → x < npj f C (R * C) 288 → ∃ p : Nat, p < 288 ∧ gm_124_4 n (x - npj f C (R * C) j) j s = some ((p : Int), s) ∧ ∀ t : gx_S, t.1 216 = f → gm_220_31 n x w (npj f C (R * C) j) j t = some ((if w = 0 then ((p / 36 : Nat) : Int) else if w = 1 then ((p / 4 % 9 : Nat) : Int) else if w = 2 then ((p % 4 : Nat) : Int) else pcs f C p (R * C)), t) := by
  have hRC := RC_96 M.1.2.2.1 M.1.2.2.2
  intro n
  induction n with
  | zero => intro j h; omega
  | succ n ih =>
    intro j h hj h1 h2
    by_cases q : j = 288
    · rw [q] at h1
      omega
    · have pr := pcs_r f C j (R * C)
      have nr := npj_r f C (R * C) j
      have nr2 := npj_r f C (R * C) 288
      have ce : ((j : Int) + 1) = ((j + 1 : Nat) : Int) := rfl
      have en : npj f C (R * C) (j + 1) = npj f C (R * C) j + bi (0 < pcs f C j (R * C)) := rfl
      -- the reference's step
      have rs : ∀ t : gx_S, t.1 216 = f → gm_220_31 (n + 1) x w (npj f C (R * C) j) j t = if pcs f C j (R * C) ≤ 0 then gm_220_113 (gm_220_31 n) x w (npj f C (R * C) j) j (pcs f C j (R * C)) t else (if ¬ npj f C (R * C) j = x then gm_220_113 (gm_220_31 n) x w (npj f C (R * C) j) j (pcs f C j (R * C)) t else (if ¬ w = 0 then (if ¬ w = 1 then (if ¬ w = 2 then some (pcs f C j (R * C), t) else some (((j : Int) % 4), t)) else some ((((j : Int) / 4) % 9), t)) else some (((j : Int) / 36), t))) := fun t et => by
        rw [gm_220_31, if_pos (by omega), if_neg (by omega), if_pos (by omega), if_pos (by omega), sp_219 et M h7 (by omega), Option.bind_some]
        show (if (-2147483648 ≤ pcs f C j (R * C) ∧ pcs f C j (R * C) ≤ 2147483647) then (if pcs f C j (R * C) ≤ 0 then gm_220_113 (gm_220_31 n) x w (npj f C (R * C) j) j (pcs f C j (R * C)) t else (if (-2147483648 ≤ npj f C (R * C) j ∧ npj f C (R * C) j ≤ 2147483647) then (if (-2147483648 ≤ x ∧ x ≤ 2147483647) then (if ¬ npj f C (R * C) j = x then gm_220_113 (gm_220_31 n) x w (npj f C (R * C) j) j (pcs f C j (R * C)) t else (if (-2147483648 ≤ w ∧ w ≤ 2147483647) then (if ¬ w = 0 then (if ¬ w = 1 then (if ¬ w = 2 then some (pcs f C j (R * C), t) else some (((j : Int) % 4), t)) else some ((((j : Int) / 4) % 9), t)) else some (((j : Int) / 36), t)) else none)) else none) else none)) else none) = _
        rw [if_pos (by omega)]
        by_cases z : pcs f C j (R * C) ≤ 0
        · rw [if_pos z, if_pos z]
        · rw [if_neg z, if_neg z, if_pos (by omega), if_pos (by omega)]
          by_cases y : npj f C (R * C) j = x
          · rw [if_neg (show ¬ ¬ npj f C (R * C) j = x from fun t => t y), if_neg (show ¬ ¬ npj f C (R * C) j = x from fun t => t y), if_pos (by omega)]
          · rw [if_pos y, if_pos y]
      have r13 : ∀ t : gx_S, gm_220_113 (gm_220_31 n) x w (npj f C (R * C) j) j (pcs f C j (R * C)) t = gm_220_31 n x w (npj f C (R * C) (j + 1)) ((j + 1 : Nat) : Int) t := fun t => by
        unfold gm_220_113 gm_220_124
        rw [if_pos (by omega)]
        by_cases z : pcs f C j (R * C) ≤ 0
        · have b : bi (0 < pcs f C j (R * C)) = 0 := if_neg (by omega)
          rw [if_pos z, sp_131 (.inl rfl), Option.bind_some, en, b, ce]
        · have b : bi (0 < pcs f C j (R * C)) = 1 := if_pos (by omega)
          rw [if_neg z, sp_131 (.inr rfl), Option.bind_some, en, b, ce]
      by_cases z : pcs f C j (R * C) ≤ 0
      · have b : bi (0 < pcs f C j (R * C)) = 0 := if_neg (by omega)
        obtain ⟨p, p1, p2, p3⟩ := ih (j + 1) (by omega) (by omega) (by omega) h2
        refine ⟨p, p1, ?_, fun t et => by rw [rs t et, if_pos z, r13 t]; exact p3 t et⟩
        rw [gm_124_4, if_pos (by omega), if_neg (by omega), if_pos (by omega), show ((j : Int)).toNat = j by omega, e j (by omega), if_pos (by omega), if_pos z]
        unfold gm_124_29
        rw [ce]
        rw [en, b, Int.add_zero] at p2
        exact p2
      · have b : bi (0 < pcs f C j (R * C)) = 1 := if_pos (by omega)
        by_cases y : npj f C (R * C) j = x
        · refine ⟨j, by omega, ?_, fun t et => ?_⟩
          · rw [gm_124_4, if_pos (by omega), if_neg (by omega), if_pos (by omega), show ((j : Int)).toNat = j by omega, e j (by omega), if_pos (by omega), if_neg z, if_pos (by omega), if_neg (by omega)]
          · rw [rs t et, if_neg z, if_neg (fun t => t y)]
            by_cases w0 : w = 0
            · rw [if_neg (fun t => t w0), if_pos w0]
              rfl
            · rw [if_pos w0, if_neg w0]
              by_cases w1 : w = 1
              · rw [if_neg (fun t => t w1), if_pos w1]
                rfl
              · rw [if_pos w1, if_neg w1]
                by_cases w2 : w = 2
                · rw [if_neg (fun t => t w2), if_pos w2]
                  rfl
                · rw [if_pos w2, if_neg w2]
        · obtain ⟨p, p1, p2, p3⟩ := ih (j + 1) (by omega) (by omega) (by omega) h2
          refine ⟨p, p1, ?_, fun t et => by rw [rs t et, if_neg z, if_pos y, r13 t]; exact p3 t et⟩
          rw [gm_124_4, if_pos (by omega), if_neg (by omega), if_pos (by omega), show ((j : Int)).toNat = j by omega, e j (by omega), if_pos (by omega), if_neg z, if_pos (by omega), if_pos (by omega)]
          unfold gm_124_29
          rw [ce]
          rw [en, b] at p2
          rw [show x - npj f C (R * C) j + -1 = x - (npj f C (R * C) j + 1) by omega]
          exact p2
end
section
/-! QUERIES: piece, whole -/
theorem sl_220e {f : Nat → Int} {R C : Nat} {x w : Int} (M : MP f R C) (h7 : f 2 = 7) (hxi : i32 x) (hx : x = -1 ∨ npj f C (R * C) 288 ≤ x) : ∀ (n j : Nat) (t : gx_S), 288 < n + j → j ≤ 288 → t.1 216 = f → gm_220_31 n x w (npj f C (R * C) j) j t = some ((if x = -1 then npj f C (R * C) 288 else -1), t) := by
  have hRC := RC_96 M.1.2.2.1 M.1.2.2.2
  unfold i32 at hxi
  -- what is ahead of a place never falls
  have mono : ∀ d j : Nat, npj f C (R * C) j ≤ npj f C (R * C) (j + d) := by
    intro d
    induction d with
    | zero => intro j; exact Int.le_refl _
    | succ d ih =>
      intro j
      have e : npj f C (R * C) (j + (d + 1)) = npj f C (R * C) (j + d) + bi (0 < pcs f C (j + d) (R * C)) := rfl
      have := ih j
      have := bi_r (0 < pcs f C (j + d) (R * C))
      omega
  intro n
  induction n with
  | zero => intro j t h; omega
  | succ n ih =>
    intro j t h hj et
    have nr := npj_r f C (R * C) j
    rw [gm_220_31, if_pos (by omega)]
    by_cases q : j = 288
    · rw [if_pos (by omega), if_pos hxi]
      by_cases z : x = -1
      · rw [if_neg (fun t => t z), if_pos z, q]
      · rw [if_pos z, if_neg z]
    · have pr := pcs_r f C j (R * C)
      have ce : ((j : Int) + 1) = ((j + 1 : Nat) : Int) := rfl
      have en : npj f C (R * C) (j + 1) = npj f C (R * C) j + bi (0 < pcs f C j (R * C)) := rfl
      rw [if_neg (by omega), if_pos (by omega), if_pos (by omega), sp_219 et M h7 (by omega), Option.bind_some]
      show (if (-2147483648 ≤ pcs f C j (R * C) ∧ pcs f C j (R * C) ≤ 2147483647) then (if pcs f C j (R * C) ≤ 0 then gm_220_113 (gm_220_31 n) x w (npj f C (R * C) j) j (pcs f C j (R * C)) t else (if (-2147483648 ≤ npj f C (R * C) j ∧ npj f C (R * C) j ≤ 2147483647) then (if (-2147483648 ≤ x ∧ x ≤ 2147483647) then (if ¬ npj f C (R * C) j = x then gm_220_113 (gm_220_31 n) x w (npj f C (R * C) j) j (pcs f C j (R * C)) t else _) else none) else none)) else none) = _
      rw [if_pos (by omega)]
      by_cases z : pcs f C j (R * C) ≤ 0
      · have b : bi (0 < pcs f C j (R * C)) = 0 := if_neg (by omega)
        have i := ih (j + 1) t (by omega) (by omega) et
        rw [en, b] at i
        rw [if_pos z]
        unfold gm_220_113 gm_220_124
        rw [if_pos (by omega), if_pos z, sp_131 (.inl rfl), Option.bind_some, ce]
        exact i
      · have b : bi (0 < pcs f C j (R * C)) = 1 := if_pos (by omega)
        have i := ih (j + 1) t (by omega) (by omega) et
        rw [en, b] at i
        have mo := mono (288 - (j + 1)) (j + 1)
        rw [show j + 1 + (288 - (j + 1)) = 288 by omega, en, b] at mo
        rw [if_neg z, if_pos (by omega), if_pos (by omega), if_pos (by omega)]
        unfold gm_220_113 gm_220_124
        rw [if_pos (by omega), if_neg z, sp_131 (.inr rfl), Option.bind_some, ce]
        exact i
theorem inv_piece {s : gx_S} (h : INV s) {x w : Int} (hx : i32 x) (hw : i32 w) : two s (gm_96 x w) (gm_220 x w) := by
  obtain ⟨f, R, C, n, pf, L, tb, c, r, v⟩ := id h
  have hx' := hx
  have hw' := hw
  unfold i32 at hx' hw'
  have hRC := RC_96 v.1.1.2.2.1 v.1.1.2.2.2
  have e6 : s.1 1 6 = f 2 := c.1.2.2.1
  have c57 := sp_57 (s := s) (a := 1) (by decide +kernel) (by rw [e6]; exact v.1.2.1)
  rw [e6] at c57
  have c150 : ∀ t : gx_S, t.1 216 = f → gm_150 t = some (decide (f 2 = 7), t) := fun t et => by
    have := sp_150 (s := t) (by rw [et]; exact v.1.2.1)
    rw [et] at this
    exact this
  have s2 : ∀ y : gx_S, y.1 216 = f → gm_220 x w y = if f 2 = 7 ∧ -1 ≤ x ∧ 0 ≤ w ∧ w ≤ 3 then gm_220_31 100000 x w 0 0 y else some (-1, y) := fun y ey => by
    unfold gm_220
    rw [c150 y ey, Option.bind_some]
    by_cases h7 : f 2 = 7
    · rw [if_neg (fun q => (gbD s).mp q h7), if_pos hx']
      by_cases a : x < -1
      · rw [if_pos a, if_neg (fun q => by have := q.2.1; omega)]
      · rw [if_neg a, if_pos hw']
        show ((gm_130 w 0 3 y).bind _) = _
        rw [in_ y hw (by omega) (by omega), Option.bind_some]
        by_cases b : 0 ≤ w ∧ w ≤ 3
        · rw [if_pos (fun q => (gbD s).mp q b), if_pos (show f 2 = 7 ∧ -1 ≤ x ∧ 0 ≤ w ∧ w ≤ 3 by omega)]
        · rw [if_neg (fun q => q ((gbD s).mpr b)), if_neg (fun q => b q.2.2)]
    · rw [if_pos ((gbD s).mpr h7), if_neg (fun q => h7 q.1)]
  by_cases ok : f 2 = 7 ∧ -1 ≤ x ∧ 0 ≤ w ∧ w ≤ 3
  · obtain ⟨h7, hx1, hw3⟩ := id ok
    obtain ⟨a, a1, a2, a3, a4⟩ := sp_235g (k := 69) (n := 288) 0 s (by decide +kernel) (by omega) (by omega)
    have am : MR a 1 f R C := MR_o (fun k j q1 q2 => a3 k j (by omega)) c.1
    obtain ⟨u, u1, u2, u3, u4⟩ := sl_123 v.1 h7 100000 0 a (by omega) (by omega) am fun p hp => by
      rw [a4, if_pos hp]
      rfl
    have z0 : nps f C 0 288 = 0 := sg_0 fun p _ => if_neg (show ¬ 0 < pcs f C p 0 from Int.lt_irrefl 0)
    rw [z0] at u1
    have c123 : gm_123 s = some (npj f C (R * C) 288, u) := by
      unfold gm_123
      rw [a1, Option.bind_some, sp_58 (MR_cz am v.1), Option.bind_some]
      exact u1
    have uo : ∀ k j, k ≠ 69 → u.1 k j = s.1 k j := fun k j q => by rw [u3 k j q, a3 k j q]
    have kc : KC s u := ⟨fun k j q => uo k j (by omega), fun k j _ => by rw [u2, a2]⟩
    have cu : CV u f R C n pf L tb := CV_o (fun k j q => uo k j (by omega)) c
    have eu : u.1 216 = f := (RV_KC kc r).1
    have nr := npj_r f C (R * C) 288
    have st : gm_96 x w s = if ¬ x = -1 then (if x < npj f C (R * C) 288 then ((gm_124 x u).bind fun q40 => if w = 0 then (if 0 ≤ q40.1 ∧ q40.1 ≤ 2147483647 then some ((q40.1 / 36), q40.2) else none) else (if w = 1 then (if 0 ≤ q40.1 ∧ q40.1 ≤ 2147483647 then (if 0 ≤ (q40.1 / 4) ∧ (q40.1 / 4) ≤ 2147483647 then some (((q40.1 / 4) % 9), q40.2) else none) else none) else (if w = 2 then (if 0 ≤ q40.1 ∧ q40.1 ≤ 2147483647 then some ((q40.1 % 4), q40.2) else none) else (if 0 ≤ q40.1 ∧ q40.1 < 288 then some ((q40.2.1 69 (q40.1).toNat), q40.2) else none)))) else some (-1, u)) else some (npj f C (R * C) 288, u) := by
      unfold gm_96
      rw [c57, Option.bind_some, if_neg (fun q => (gbD s).mp q h7), if_pos hx', if_neg (by omega), if_pos hw', if_neg (by omega), if_pos hw3.2]
      show ((gm_123 s).bind _) = _
      rw [c123, Option.bind_some]
      show (if ¬ x = -1 then (if (-2147483648 ≤ npj f C (R * C) 288 ∧ npj f C (R * C) 288 ≤ 2147483647) then _ else none) else some (npj f C (R * C) 288, u)) = _
      rw [if_pos (show -2147483648 ≤ npj f C (R * C) 288 ∧ npj f C (R * C) 288 ≤ 2147483647 by omega)]
    have s2 := s2 u eu
    rw [if_pos ok] at s2
    by_cases z : x = -1
    · have t2 := sl_220e (w := w) v.1 h7 hx (.inl z) 100000 0 u (by omega) (by omega) eu
      have t2 : gm_220_31 100000 x w 0 0 u = _ := t2
      rw [t2, if_pos z] at s2
      rw [if_neg (fun t => t z)] at st
      exact ⟨_, u, u, st, s2, q_inv kc cu r v (KRw_rf u)⟩
    · rw [if_pos z] at st
      by_cases y : x < npj f C (R * C) 288
      · obtain ⟨p, p1, p2, p3⟩ := sl_124 v.1 h7 hw3 (show 0 ≤ x by omega) u4 100000 0 (by omega) (by omega) (show npj f C (R * C) 0 ≤ x by show (0 : Int) ≤ x; omega) y
        have p2 : gm_124_4 100000 (x - 0) 0 u = some ((p : Int), u) := p2
        rw [Int.sub_zero] at p2
        have p2 : gm_124 x u = some ((p : Int), u) := p2
        have p3 := p3 u eu
        have p3 : gm_220_31 100000 x w 0 0 u = _ := p3
        rw [p3] at s2
        rw [if_pos y, p2, Option.bind_some] at st
        refine ⟨_, u, u, ?_, s2, q_inv kc cu r v (KRw_rf u)⟩
        rw [st]
        by_cases w0 : w = 0
        · rw [if_pos w0, if_pos w0, if_pos (by omega)]
          rfl
        · rw [if_neg w0, if_neg w0]
          by_cases w1 : w = 1
          · rw [if_pos w1, if_pos w1, if_pos (by omega), if_pos (by omega)]
            rfl
          · rw [if_neg w1, if_neg w1]
            by_cases w2 : w = 2
            · rw [if_pos w2, if_pos w2, if_pos (by omega)]
              rfl
            · rw [if_neg w2, if_neg w2, if_pos (by omega)]
              show some (u.1 69 ((p : Int)).toNat, u) = _
              rw [show ((p : Int)).toNat = p by omega, u4 p p1]
      · have t2 := sl_220e (w := w) v.1 h7 hx (.inr (by omega)) 100000 0 u (by omega) (by omega) eu
        have t2 : gm_220_31 100000 x w 0 0 u = _ := t2
        rw [t2, if_neg z] at s2
        rw [if_neg y] at st
        exact ⟨_, u, u, st, s2, q_inv kc cu r v (KRw_rf u)⟩
  · refine ⟨-1, s, s, ?_, (s2 s r.1).trans (if_neg ok), h⟩
    unfold gm_96
    rw [c57, Option.bind_some]
    by_cases h7 : f 2 = 7
    · rw [if_neg (fun q => (gbD s).mp q h7), if_pos hx']
      by_cases a : x < -1
      · rw [if_pos a]
      · rw [if_neg a, if_pos hw']
        by_cases b : w < 0
        · rw [if_pos b]
        · rw [if_neg b, if_neg (fun q => ok ⟨h7, by omega, by omega, q⟩)]
    · rw [if_pos ((gbD s).mpr h7)]
end
section
/-! QUERIES: surface -/
theorem NC_p {f : Nat → Int} {R C l k : Nat} (hb : f 2 / 2 ^ l % 2 = 1) (hk : k < R * C) : 0 < NC f R C l (f (52 + 96 * l + 12 * (k / C) + k % C)) := by
  unfold NC
  rw [if_pos hb]
  refine sg_pos (i := k) (fun _ _ => (bi_r _).1) hk ?_
  show (0 : Int) < bi (f (52 + 96 * l + 12 * (k / C) + k % C) = f (52 + 96 * l + 12 * (k / C) + k % C))
  unfold bi
  rw [if_pos rfl]
  decide
theorem unv_SO {f : Nat → Int} {R C g k : Nat} (M : MP f R C) (h7 : f 2 = 7) (q : co f C 0 k < 8) : unv f R C g k = SO f R C g (co f C 0 k) (-1) (decide (SO f R C g (co f C 0 k) (-1) false = 0)) := by
  unfold unv
  rw [if_pos q]
  exact SO_row M h7 _ _
theorem unv_p {f : Nat → Int} {R C g k : Nat} (M : MP f R C) (h7 : f 2 = 7) (hg : g < 3) (hk : k < R * C) : 0 < unv f R C g k := by
  by_cases q : co f C 0 k < 8
  · have r := SO_r M h7 hg (co f C 0 k) (-1) (decide (SO f R C g (co f C 0 k) (-1) false = 0))
    have t := tot_0 (x := co f C 0 k) M h7 hg
    have p := NC_p (R := R) (l := 0) (f := f) (by rw [h7]; rfl) hk
    rw [(co_s M h7 hk).1.1] at p
    rw [unv_SO M h7 q]
    omega
  · unfold unv
    rw [if_neg q]
    decide
theorem sl_197 {f : Nat → Int} {R C g : Nat} (M : MP f R C) (h7 : f 2 = 7) (hg : g < 3) : ∀ (n k : Nat) (t : gx_S), R * C < n + k → k ≤ R * C → t.1 216 = f → (∀ z, z < 8 → t.1 236 z = LV f R C g z) → ∃ u : gx_S, gm_197_7 n g k t = some u ∧ u.1 = t.1 ∧ (∀ a i, a ≠ 240 → a ≠ 241 → u.2 a i = t.2 a i) ∧ (∀ j, k ≤ j → j < R * C → u.2 240 j = tpv f R C g j ∧ u.2 241 j = unv f R C g j) ∧ ∀ j, j < k → u.2 240 j = t.2 240 j ∧ u.2 241 j = t.2 241 j := by
  intro n
  induction n with
  | zero => intro k t h; omega
  | succ n ih =>
    intro k t h hk ef hl
    have hRC := RC_96 M.1.2.2.1 M.1.2.2.2
    have M' : MP (t.1 216) R C := by rw [ef]; exact M
    have hm : t.1 216 0 * t.1 216 1 = ((R * C : Nat) : Int) := by rw [ef, M.1.1, M.1.2.1]; simp
    rw [gm_197_7, sp_151, hm, Option.bind_some]
    dsimp only
    rw [if_pos (by omega), if_pos (by omega)]
    by_cases q : k = R * C
    · rw [if_pos (by omega)]
      exact ⟨t, rfl, rfl, fun _ _ _ _ => rfl, fun j h1 h2 => absurd h2 (by omega), fun _ _ => ⟨rfl, rfl⟩⟩
    · have hkk : k < R * C := by omega
      have ce : ((k : Int) + 1) = ((k + 1 : Nat) : Int) := rfl
      have i5 : ((k : Int)).toNat = k := by omega
      have cs := co_s M h7 hkk
      have c52 := sp_152 (s := t) (R := R) (C := C) (MP_mz M') 0 k (by omega) hkk
      have c52 : gm_152 0 k t = some (t.1 216 (52 + 96 * 0 + 12 * (k / C) + k % C), t) := c52
      rw [ef, cs.1.1] at c52
      rw [if_neg (by omega), c52, Option.bind_some]
      dsimp only
      rw [if_pos (by omega), if_pos (by omega), i5]
      obtain ⟨t1, ht1⟩ : ∃ t1, t1 = gw2 (gw2 t 240 k 0) 241 k 1 := ⟨_, rfl⟩
      have e1 : t1.1 = t.1 := by rw [ht1]; rfl
      have et2 : ∀ a i, a ≠ 240 → a ≠ 241 → t1.2 a i = t.2 a i := fun a i h1 h2 => by rw [ht1, gw2_2, if_neg (fun x => h2 x.1), gw2_2, if_neg (fun x => h1 x.1)]
      have et3 : ∀ j, j ≠ k → t1.2 240 j = t.2 240 j ∧ t1.2 241 j = t.2 241 j := fun j h1 => by
        rw [ht1, gw2_2, if_neg (by omega), gw2_2, if_neg (by omega), gw2_2, if_neg (by omega), gw2_2, if_neg (by omega)]
        exact ⟨rfl, rfl⟩
      rw [← ht1]
      by_cases z : co f C 0 k = 8
      · rw [if_pos (by omega)]
        unfold gm_197_96
        rw [ce]
        obtain ⟨u, u1, u2, u3, u4, u5⟩ := ih (k + 1) t1 (by omega) (by omega) (by rw [e1]; exact ef) (fun z hz => by rw [e1]; exact hl z hz)
        refine ⟨u, u1, u2.trans e1, fun a i h1 h2 => (u3 a i h1 h2).trans (et2 a i h1 h2), fun j h1 h2 => ?_, fun j h1 => ?_⟩
        · by_cases p : j = k
          · obtain ⟨x1, x2⟩ := u5 j (by omega)
            rw [x1, x2, p, ht1, gw2_2, if_neg (by omega), gw2_2, if_pos ⟨rfl, rfl⟩, gw2_2, if_pos ⟨rfl, rfl⟩]
            unfold tpv unv
            rw [if_neg (by omega), if_neg (by omega)]
            exact ⟨rfl, rfl⟩
          · exact u4 j (by omega) h2
        · obtain ⟨x1, x2⟩ := u5 j (by omega)
          obtain ⟨y1, y2⟩ := et3 j (by omega)
          exact ⟨x1.trans y1, x2.trans y2⟩
      · have q8 : co f C 0 k < 8 := by omega
        have i6 : ((co f C 0 k : Int)).toNat = co f C 0 k := by omega
        have M1 : MP (t1.1 216) R C := by rw [e1, ef]; exact M
        have h1 : t1.1 216 2 = 7 := by rw [e1, ef]; exact h7
        have c180 := sp_180 M1 h1 hg (show co f C 0 k < 9 by omega)
        rw [e1, ef] at c180
        have lr := (LV_r M hg).1 (co f C 0 k) q8
        have ls := sg_at (LV_r M hg).1 (co f C 0 k) q8
        have ls2 := (GV_r M h7 hg).2.1
        rw [if_neg (by omega), c180, Option.bind_some]
        dsimp only
        rw [if_pos (by omega), i6, e1, hl _ q8, if_pos (by omega)]
        have tail : ∀ (w : Int) (b : Bool), 0 ≤ w → w ≤ 9 → gm_197_77 (gm_197_7 n) g k (co f C 0 k) (gb b) k (LV f R C g (co f C 0 k)) w t1 = gm_197_7 n g ((k + 1 : Nat) : Int) (gw2 (gw2 t1 240 k (LV f R C g (co f C 0 k) * w)) 241 k (SO f R C g (co f C 0 k) (-1) b)) := fun w b w0 w9 => by
          unfold gm_197_77
          rw [if_pos (by omega), if_pos (by omega), i5]
          have c := sp_157g (s := gw2 t1 240 k (LV f R C g (co f C 0 k) * w)) (R := R) (C := C) M1 h1 (co f C 0 k : Int) (-1) b hg (by omega) (by omega)
          have r := SO_r M h7 hg (co f C 0 k) (-1) b
          have c : gm_157 g (co f C 0 k) (-1) (gb b) (gw2 t1 240 k (LV f R C g (co f C 0 k) * w)) = some (SO (t1.1 216) R C g (co f C 0 k) (-1) b, gw2 t1 240 k (LV f R C g (co f C 0 k) * w)) := c
          rw [e1, ef] at c
          rw [c, Option.bind_some]
          dsimp only
          rw [if_pos (by omega), if_pos (by omega)]
          unfold gm_197_96
          rw [ce]
        have fin : ∀ (w : Int) (b : Bool), LV f R C g (co f C 0 k) * w = tpv f R C g k → SO f R C g (co f C 0 k) (-1) b = unv f R C g k → ∃ u : gx_S, gm_197_7 n g ((k + 1 : Nat) : Int) (gw2 (gw2 t1 240 k (LV f R C g (co f C 0 k) * w)) 241 k (SO f R C g (co f C 0 k) (-1) b)) = some u ∧ u.1 = t.1 ∧ (∀ a i, a ≠ 240 → a ≠ 241 → u.2 a i = t.2 a i) ∧ (∀ j, k ≤ j → j < R * C → u.2 240 j = tpv f R C g j ∧ u.2 241 j = unv f R C g j) ∧ ∀ j, j < k → u.2 240 j = t.2 240 j ∧ u.2 241 j = t.2 241 j := fun w b h1 h2 => by
          rw [h1, h2]
          obtain ⟨u, u1, u2, u3, u4, u5⟩ := ih (k + 1) (gw2 (gw2 t1 240 k (tpv f R C g k)) 241 k (unv f R C g k)) (by omega) (by omega) (by show t1.1 216 = f; rw [e1]; exact ef) (fun z hz => by show t1.1 236 z = _; rw [e1]; exact hl z hz)
          refine ⟨u, u1, u2.trans e1, fun a i h1 h2 => ?_, fun j h1 h2 => ?_, fun j h1 => ?_⟩
          · rw [u3 a i h1 h2, gw2_2, if_neg (fun x => h2 x.1), gw2_2, if_neg (fun x => h1 x.1)]
            exact et2 a i h1 h2
          · by_cases p : j = k
            · obtain ⟨x1, x2⟩ := u5 j (by omega)
              rw [x1, x2, p, gw2_2, if_neg (by omega), gw2_2, if_pos ⟨rfl, rfl⟩, gw2_2, if_pos ⟨rfl, rfl⟩]
              exact ⟨rfl, rfl⟩
            · exact u4 j (by omega) h2
          · obtain ⟨x1, x2⟩ := u5 j (by omega)
            obtain ⟨y1, y2⟩ := et3 j (by omega)
            rw [x1, x2, gw2_2, if_neg (by omega), gw2_2, if_neg (by omega), gw2_2, if_neg (by omega), gw2_2, if_neg (by omega)]
            exact ⟨y1, y2⟩
        by_cases y : SO f R C g (co f C 0 k) (-1) false = 0
        · rw [decide_eq_true y, if_neg (show ¬ gb true = 0 by decide), tail 1 true (by omega) (by omega)]
          refine fin 1 true ?_ ?_
          · unfold tpv
            rw [if_pos q8, if_pos y]
          · rw [unv_SO M h7 q8, decide_eq_true y]
        · have c156 := sp_156 (MP_mz M1) (MP_cok M1 h1) g k hg hkk
          have c156 : gm_156 g k t1 = some (t1.1 216 (32 + 4 * g + (t1.1 216 (52 + 96 * 2 + 12 * (k / C) + k % C)).toNat), t1) := c156
          rw [e1, ef] at c156
          have c156 : gm_156 g k t1 = some (wt f C g k, t1) := c156
          have wb := wt_b M h7 hg hkk
          rw [decide_eq_false y, if_pos (show gb false = 0 by decide), c156, Option.bind_some]
          dsimp only
          rw [tail (wt f C g k) false wb.1 wb.2]
          refine fin (wt f C g k) false ?_ ?_
          · unfold tpv
            rw [if_pos q8, if_neg y]
          · rw [unv_SO M h7 q8, decide_eq_false y]
theorem KRw_of3 {s u : gx_S} (h1 : u.1 = s.1) (h2 : ∀ k j, k ≠ 240 → k ≠ 241 → u.2 k j = s.2 k j) : KRw s u := ⟨fun k j _ => by rw [h1], fun k j q => h2 k j (by omega) (by omega), fun S => ⟨fun j hj => by rw [h1, h2 225 j (by decide) (by decide)]; exact S.1 j hj, fun c hc => by rw [h1, h2 229 c (by decide) (by decide), h2 230 c (by decide) (by decide), h2 227 c (by decide) (by decide), h2 228 c (by decide) (by decide)]; exact S.2.1 c hc, fun k hk => by rw [h2 231 k (by decide) (by decide)]; exact S.2.2 k hk⟩⟩
theorem sp_197 {s : gx_S} {R C g : Nat} (M : MP (s.1 216) R C) (h7 : s.1 216 2 = 7) (hg : g < 3) : ∃ u : gx_S, gm_197 g s = some u ∧ KRw s u ∧ ∀ k, k < R * C → u.2 240 k = tpv (s.1 216) R C g k ∧ u.2 241 k = unv (s.1 216) R C g k := by
  obtain ⟨t, t1, t2, t3⟩ := sp_177 (g := g) M hg
  have hRC := RC_96 M.1.2.2.1 M.1.2.2.2
  obtain ⟨u, u1, u2, u3, u4, u5⟩ := sl_197 M h7 hg 100000 0 t (by omega) (by omega) (KR_216 t3) t2
  have u1 : gm_197_7 100000 g 0 t = some u := u1
  refine ⟨u, ?_, KRw_tr (KR_w t3) (KRw_of3 u2 u3), fun k hk => u4 k (by omega) hk⟩
  unfold gm_197
  rw [t1, Option.bind_some, u1]
theorem inv_surface {s : gx_S} (h : INV s) {x y z w : Int} (hx : i32 x) (hy : i32 y) (hz : i32 z) (hw : i32 w) : two s (gm_106 x y z w) (gm_199 x y z w) := by
  obtain ⟨f, R, C, n, pf, L, tb, c, r, v⟩ := id h
  have hx' := hx
  have hw' := hw
  unfold i32 at hx' hw'
  have e6 : s.1 1 6 = f 2 := c.1.2.2.1
  have c57 := sp_57 (s := s) (a := 1) (by decide +kernel) (by rw [e6]; exact v.1.2.1)
  rw [e6] at c57
  have c59 := sp_59 c.1 v.1 hy hz
  have c148 : ∀ t : gx_S, gm_148 x t = _ := fun t => sp_148 t hx
  have c150 : ∀ t : gx_S, t.1 216 = f → gm_150 t = some (decide (f 2 = 7), t) := fun t et => by
    have := sp_150 (s := t) (by rw [et]; exact v.1.2.1)
    rw [et] at this
    exact this
  have s1 : gm_106 x y z w s = if (0 ≤ x ∧ x < 3) ∧ f 2 = 7 ∧ (0 ≤ y ∧ y < R ∧ 0 ≤ z ∧ z < C) ∧ (0 ≤ w ∧ w ≤ 1) then ((some (fx_rf 70 (x).toNat)).bind fun v39 => (gm_19 v39 2 s).bind fun q44 => (gm_27 v39 ((y * (q44.1 1 5)) + z) q44).bind fun q46 => if (-2147483648 ≤ q46.1 ∧ q46.1 ≤ 2147483647) then ((gm_28 v39 ((y * (q44.1 1 5)) + z) q46.2).bind fun q49 => if (-2147483648 ≤ q49.1 ∧ q49.1 ≤ 2147483647) then ((gm_127 q46.1 q49.1 w q49.2).bind fun q52 => some (q52.1, q52.2)) else none) else none) else some (-1, s) := by
    unfold gm_106
    rw [sp_114 s hx, Option.bind_some]
    by_cases a : 0 ≤ x ∧ x < 3
    · rw [if_neg (fun q => (gbD s).mp q a)]
      show ((gm_57 1 s).bind _) = _
      rw [c57, Option.bind_some]
      by_cases b : f 2 = 7
      · rw [if_neg (fun q => (gbD s).mp q b)]
        show ((gm_59 1 y z s).bind _) = _
        rw [c59, Option.bind_some]
        by_cases d : 0 ≤ y ∧ y < R ∧ 0 ≤ z ∧ z < C
        · rw [if_neg (fun q => (gbD s).mp q d), if_pos hw']
          by_cases e : w < 0
          · rw [if_pos e, if_neg (fun t : (0 ≤ x ∧ x < 3) ∧ f 2 = 7 ∧ (0 ≤ y ∧ y < R ∧ 0 ≤ z ∧ z < C) ∧ (0 ≤ w ∧ w ≤ 1) => by have := t.2.2.2; omega)]
            rfl
          · rw [if_neg e]
            by_cases e2 : w ≤ 1
            · rw [if_pos e2, if_pos a, if_pos (show (0 ≤ x ∧ x < 3) ∧ f 2 = 7 ∧ (0 ≤ y ∧ y < R ∧ 0 ≤ z ∧ z < C) ∧ (0 ≤ w ∧ w ≤ 1) from ⟨a, b, d, by omega⟩)]
            · rw [if_neg e2, if_neg (fun t : (0 ≤ x ∧ x < 3) ∧ f 2 = 7 ∧ (0 ≤ y ∧ y < R ∧ 0 ≤ z ∧ z < C) ∧ (0 ≤ w ∧ w ≤ 1) => e2 t.2.2.2.2)]
              rfl
        · rw [if_pos ((gbD s).mpr d), if_neg (fun t : (0 ≤ x ∧ x < 3) ∧ f 2 = 7 ∧ (0 ≤ y ∧ y < R ∧ 0 ≤ z ∧ z < C) ∧ (0 ≤ w ∧ w ≤ 1) => d t.2.2.1)]
          rfl
      · rw [if_pos ((gbD s).mpr b), if_neg (fun t : (0 ≤ x ∧ x < 3) ∧ f 2 = 7 ∧ (0 ≤ y ∧ y < R ∧ 0 ≤ z ∧ z < C) ∧ (0 ≤ w ∧ w ≤ 1) => b t.2.1)]
        rfl
    · rw [if_pos ((gbD s).mpr a), if_neg (fun t : (0 ≤ x ∧ x < 3) ∧ f 2 = 7 ∧ (0 ≤ y ∧ y < R ∧ 0 ≤ z ∧ z < C) ∧ (0 ≤ w ∧ w ≤ 1) => a t.1)]
      rfl
  have s2 : ∀ t : gx_S, t.1 216 = f → gm_199 x y z w t = if (0 ≤ x ∧ x < 3) ∧ f 2 = 7 ∧ (0 ≤ y ∧ y < R ∧ 0 ≤ z ∧ z < C) ∧ (0 ≤ w ∧ w ≤ 1) then ((gm_197 x t).bind fun q39 => if 0 ≤ (((q39.1 216 1) * y) + z) ∧ (((q39.1 216 1) * y) + z) < 96 then ((gm_194 (q39.2 240 ((((q39.1 216 1) * y) + z)).toNat) (q39.2 241 ((((q39.1 216 1) * y) + z)).toNat) w q39).bind fun q48 => some (q48.1, q48.2)) else none) else some (-1, t) := fun t et => by
    unfold gm_199
    rw [c150 t et, Option.bind_some]
    by_cases b : f 2 = 7
    · rw [if_neg (fun q => (gbD t).mp q b)]
      show ((gm_148 x t).bind _) = _
      rw [c148 t, Option.bind_some]
      by_cases a : 0 ≤ x ∧ x ≤ 2
      · rw [if_neg (fun q => (gbD t).mp q a)]
        show ((gm_198 y z t).bind _) = _
        rw [sp_198 et v.1 hy hz, Option.bind_some]
        by_cases d : 0 ≤ y ∧ y < R ∧ 0 ≤ z ∧ z < C
        · rw [if_neg (fun q => (gbD t).mp q d), if_pos hw']
          show ((gm_130 w 0 1 t).bind _) = _
          rw [in_ t hw (by omega) (by omega), Option.bind_some]
          by_cases e : 0 ≤ w ∧ w ≤ 1
          · rw [if_pos (fun q => (gbD t).mp q e), if_pos (show (0 ≤ x ∧ x < 3) ∧ f 2 = 7 ∧ (0 ≤ y ∧ y < R ∧ 0 ≤ z ∧ z < C) ∧ (0 ≤ w ∧ w ≤ 1) from ⟨by omega, b, d, e⟩)]
          · rw [if_neg (fun q => q ((gbD t).mpr e)), if_neg (fun t : (0 ≤ x ∧ x < 3) ∧ f 2 = 7 ∧ (0 ≤ y ∧ y < R ∧ 0 ≤ z ∧ z < C) ∧ (0 ≤ w ∧ w ≤ 1) => e t.2.2.2)]
            rfl
        · rw [if_pos ((gbD t).mpr d), if_neg (fun t : (0 ≤ x ∧ x < 3) ∧ f 2 = 7 ∧ (0 ≤ y ∧ y < R ∧ 0 ≤ z ∧ z < C) ∧ (0 ≤ w ∧ w ≤ 1) => d t.2.2.1)]
          rfl
      · rw [if_pos ((gbD t).mpr a), if_neg (fun t : (0 ≤ x ∧ x < 3) ∧ f 2 = 7 ∧ (0 ≤ y ∧ y < R ∧ 0 ≤ z ∧ z < C) ∧ (0 ≤ w ∧ w ≤ 1) => a (by have := t.1; omega))]
        rfl
    · rw [if_pos ((gbD t).mpr b), if_neg (fun t : (0 ≤ x ∧ x < 3) ∧ f 2 = 7 ∧ (0 ≤ y ∧ y < R ∧ 0 ≤ z ∧ z < C) ∧ (0 ≤ w ∧ w ≤ 1) => b t.2.1)]
      rfl
  by_cases ok : (0 ≤ x ∧ x < 3) ∧ f 2 = 7 ∧ (0 ≤ y ∧ y < R ∧ 0 ≤ z ∧ z < C) ∧ (0 ≤ w ∧ w ≤ 1)
  · rw [if_pos ok] at s1
    obtain ⟨a, h7, d, e⟩ := id ok
    obtain ⟨g, rfl⟩ : ∃ g : Nat, x = g := ⟨x.toNat, by omega⟩
    obtain ⟨y, rfl⟩ : ∃ y' : Nat, y = y' := ⟨y.toNat, by omega⟩
    obtain ⟨z, rfl⟩ : ∃ z' : Nat, z = z' := ⟨z.toNat, by omega⟩
    have hg : g < 3 := by omega
    have hk : y * C + z < R * C := by
      have := Nat.mul_le_mul_right C (show y + 1 ≤ R by omega)
      rw [Nat.add_mul] at this
      omega
    obtain ⟨D, u, u1, u2, u3, u4, u5, u6⟩ := CV_ready (w := 2) (by omega) v.1 h7 hg c
    have u1 : gm_19 (71 + 48 * g) 2 s = some u := u1
    have tm := u4.2.2.2.2.1 u5
    have kc : KC s u := KG_KC (ga_of hg) u3
    have ru := RV_KC kc r
    have eu : u.1 216 = f := ru.1
    have e5 : u.1 1 5 = C := u2.1.2.1.trans v.1.1.2.1
    obtain ⟨t27, t28⟩ := sp_27 (k := y * C + z) u2.1 v.1 h7 hg (ga_of hg).2.2.1 u4.2.2.1 (u4.2.2.2.1 tm.1).1 tm.2 hk
    have ei : (y : Int) * (C : Int) + (z : Int) = ((y * C + z : Nat) : Int) := by rw [Int.natCast_add, Int.natCast_mul]
    have ei2 : (C : Int) * (y : Int) + (z : Int) = ((y * C + z : Nat) : Int) := by rw [Int.natCast_add, Int.natCast_mul, Int.mul_comm]
    obtain ⟨⟨p0, p1⟩, q0, q1⟩ := tpv_r v.1 h7 hg hk
    have up := unv_p v.1 h7 hg hk
    have hRC := RC_96 v.1.1.2.2.1 v.1.1.2.2.2
    have Mu : MP (u.1 216) R C := by rw [eu]; exact v.1
    obtain ⟨t, t1, t2, t3⟩ := sp_197 Mu (by rw [eu]; exact h7) hg
    have t3 := t3 (y * C + z) hk
    rw [eu] at t3
    have s2 := s2 u eu
    rw [if_pos ok, t1, Option.bind_some, KRw_216 t2, eu, v.1.1.2.1, ei2] at s2
    rw [Option.bind_some, vg_ g hg, u1, Option.bind_some, e5, ei, t27, Option.bind_some] at s1
    dsimp only at s1
    obtain ⟨k, hk'⟩ : ∃ k, k = y * C + z := ⟨_, rfl⟩
    rw [← hk'] at s1 s2 t28 t3 p0 p1 q0 q1 up hk
    have i5 : ((k : Int)).toNat = k := by omega
    obtain ⟨p, hp⟩ : ∃ p : Nat, tpv f R C g k = p := ⟨_, (Int.toNat_of_nonneg p0).symm⟩
    obtain ⟨b, hb⟩ : ∃ b : Nat, unv f R C g k = b := ⟨_, (Int.toNat_of_nonneg q0).symm⟩
    rw [hp] at s1 p0 p1
    rw [hb] at t28 q0 q1 up
    rw [hp, hb] at t3
    rw [if_pos (by omega), t28, Option.bind_some] at s1
    dsimp only at s1
    rw [if_pos (by omega), sp_127 u (by omega) (by omega) (by omega) hw, Option.bind_some] at s1
    rw [if_pos (by omega), i5, t3.1, t3.2, sp_194 t (by omega) (by omega) (by omega) hw, Option.bind_some] at s2
    exact ⟨_, u, t, s1, s2, q_inv kc u2 r v t2⟩
  · rw [if_neg ok] at s1
    exact ⟨-1, s, s, s1, (s2 s r.1).trans (if_neg ok), h⟩
end
section
/-! QUERIES: densest (both answer, within the map; that the answers are alike is for later) -/
/-- a call on both sides, each with an answer -/
def twW (s : gx_S) (a b : gx_S → Option (Int × gx_S)) : Prop := ∃ (r r' : Int) (u w : gx_S), a s = some (r, u) ∧ b u = some (r', w) ∧ INV w
theorem two_W {s : gx_S} {a b : gx_S → Option (Int × gx_S)} (h : two s a b) : twW s a b := by
  obtain ⟨r, u, w, h1, h2, h3⟩ := h
  exact ⟨r, r, u, w, h1, h2, h3⟩
/-- a comes ahead of b -/
abbrev AHb (f : Nat → Int) (R C g a b : Nat) : Bool := decide ((tpv f R C g a * unv f R C g b = tpv f R C g b * unv f R C g a ∧ a < b) ∨ tpv f R C g b * unv f R C g a < tpv f R C g a * unv f R C g b)
theorem pr_r {f : Nat → Int} {R C g a b : Nat} (M : MP f R C) (h7 : f 2 = 7) (hg : g < 3) (ha : a < R * C) (hb : b < R * C) : 0 ≤ tpv f R C g a * unv f R C g b ∧ tpv f R C g a * unv f R C g b ≤ 699770016 := by
  obtain ⟨⟨p0, p1⟩, _⟩ := tpv_r M h7 hg ha
  obtain ⟨_, q0, q1⟩ := tpv_r M h7 hg hb
  have x := Int.mul_nonneg p0 q0
  have y := Int.mul_le_mul p1 q1 q0 (by omega)
  omega
theorem sp_200 {f : Nat → Int} {R C g a b : Nat} {t : gx_S} (M : MP f R C) (h7 : f 2 = 7) (hg : g < 3) (ha : a < R * C) (hb : b < R * C) (e : ∀ k, k < R * C → t.2 240 k = tpv f R C g k ∧ t.2 241 k = unv f R C g k) : gm_200 a b t = some (AHb f R C g a b, t) := by
  have hRC := RC_96 M.1.2.2.1 M.1.2.2.2
  have r1 := pr_r M h7 hg ha hb
  have r2 := pr_r M h7 hg hb ha
  have ia : ((a : Int)).toNat = a := by omega
  have ib : ((b : Int)).toNat = b := by omega
  unfold gm_200 AHb
  rw [ia, ib, (e a ha).1, (e a ha).2, (e b hb).1, (e b hb).2, if_pos (by omega), if_pos (by omega), if_pos (by omega), if_pos (by omega)]
  generalize tpv f R C g a * unv f R C g b = p at *
  generalize tpv f R C g b * unv f R C g a = q at *
  by_cases z : p = q
  · rw [if_pos z, if_pos (by omega), if_pos (by omega)]
    by_cases y : (b : Int) ≤ (a : Int)
    · rw [if_pos y, decide_eq_false (show ¬ ((p = q ∧ a < b) ∨ q < p) by omega)]
    · rw [if_neg y, decide_eq_true (show (p = q ∧ a < b) ∨ q < p by omega)]
  · rw [if_neg z]
    by_cases y : p ≤ q
    · rw [if_pos y, decide_eq_false (show ¬ ((p = q ∧ a < b) ∨ q < p) by omega)]
    · rw [if_neg y, decide_eq_true (show (p = q ∧ a < b) ∨ q < p by omega)]
/-- how many come ahead -/
def AHn (f : Nat → Int) (R C g a n : Nat) : Int := sg (fun b => gb (AHb f R C g b a)) n
theorem AHn_r (f : Nat → Int) (R C g a : Nat) : ∀ n : Nat, 0 ≤ AHn f R C g a n ∧ AHn f R C g a n ≤ n := by
  intro n
  have e : ∀ b, 0 ≤ gb (AHb f R C g b a) ∧ gb (AHb f R C g b a) ≤ 1 := fun b => by
    cases AHb f R C g b a
    · exact ⟨by decide, by decide⟩
    · exact ⟨by decide, by decide⟩
  refine ⟨sg_nn fun k _ => (e k).1, ?_⟩
  rw [← sg_one n]
  exact sg_le fun k _ => (e k).2
theorem sl_201_53 {f : Nat → Int} {R C g a : Nat} {x : Int} {t : gx_S} (K : Int → Int → gx_S → Option (Int × gx_S)) (M : MP f R C) (h7 : f 2 = 7) (hg : g < 3) (hx : i32 x) (ef : t.1 216 = f) (ha : a < R * C) (e : ∀ k, k < R * C → t.2 240 k = tpv f R C g k ∧ t.2 241 k = unv f R C g k) : ∀ (n b : Nat), R * C < n + b → b ≤ R * C → gm_201_53 K n x a (AHn f R C g a b) b t = if AHn f R C g a (R * C) = x then some (((12 * (a / C) + a % C : Nat) : Int), t) else K x ((a + 1 : Nat) : Int) t := by
  unfold i32 at hx
  intro n
  induction n with
  | zero => intro b h; omega
  | succ n ih =>
    intro b h hb
    have hRC := RC_96 M.1.2.2.1 M.1.2.2.2
    have hm : t.1 216 0 * t.1 216 1 = ((R * C : Nat) : Int) := by rw [ef, M.1.1, M.1.2.1]; simp
    have ar := AHn_r f R C g a b
    have mC := (M.2.2.2.2.2.2.2.2 (by omega)).2.2
    rw [gm_201_53, sp_151, hm, Option.bind_some]
    dsimp only
    rw [if_pos (by omega), if_pos (by omega)]
    by_cases q : b = R * C
    · have c1 : t.1 216 1 = C := by rw [ef, M.1.2.1]
      rw [if_pos (by omega), if_pos (by omega), if_pos hx, q, c1]
      by_cases z : AHn f R C g a (R * C) = x
      · rw [if_neg (fun y => y z), if_pos z, if_pos (show 0 ≤ (a : Int) ∧ (a : Int) ≤ 2147483647 ∧ 0 < (C : Int) ∧ (C : Int) ≤ 2147483647 by have := M.1.2.2.2; omega)]
        rfl
      · rw [if_pos z, if_neg z]
        rfl
    · have ce : ((b : Int) + 1) = ((b + 1 : Nat) : Int) := rfl
      have gd : gb (AHb f R C g b a) = 0 ∨ gb (AHb f R C g b a) = 1 := by
        cases AHb f R C g b a
        · exact .inl rfl
        · exact .inr rfl
      rw [if_neg (by omega), sp_200 M h7 hg (show b < R * C by omega) ha e, Option.bind_some]
      dsimp only
      rw [sp_131 gd, Option.bind_some, ce]
      exact ih (b + 1) (by omega) (by omega)
theorem sl_201_39 {f : Nat → Int} {R C g : Nat} {x : Int} {t : gx_S} (M : MP f R C) (h7 : f 2 = 7) (hg : g < 3) (hx : i32 x) (ef : t.1 216 = f) (e : ∀ k, k < R * C → t.2 240 k = tpv f R C g k ∧ t.2 241 k = unv f R C g k) : ∀ (n a : Nat), R * C < n + a → a ≤ R * C → ∃ r : Int, gm_201_39 n x a t = some (r, t) ∧ ((∃ a' : Nat, a ≤ a' ∧ a' < R * C ∧ AHn f R C g a' (R * C) = x ∧ r = ((12 * (a' / C) + a' % C : Nat) : Int)) ∨ ∀ a' : Nat, a ≤ a' → a' < R * C → ¬ AHn f R C g a' (R * C) = x) := by
  intro n
  induction n with
  | zero => intro a h; omega
  | succ n ih =>
    intro a h ha
    have hRC := RC_96 M.1.2.2.1 M.1.2.2.2
    have hm : t.1 216 0 * t.1 216 1 = ((R * C : Nat) : Int) := by rw [ef, M.1.1, M.1.2.1]; simp
    rw [gm_201_39, sp_151, hm, Option.bind_some]
    dsimp only
    rw [if_pos (by omega), if_pos (by omega)]
    by_cases q : a = R * C
    · rw [if_pos (by omega)]
      exact ⟨-1, rfl, .inr fun a' h1 h2 => by omega⟩
    · rw [if_neg (by omega)]
      have i := sl_201_53 (g := g) (a := a) (gm_201_39 n) M h7 hg hx ef (by omega) e 100000 0 (by omega) (by omega)
      have i : gm_201_53 (gm_201_39 n) 100000 x a 0 0 t = _ := i
      rw [i]
      by_cases z : AHn f R C g a (R * C) = x
      · rw [if_pos z]
        exact ⟨_, rfl, .inl ⟨a, by omega, by omega, z, rfl⟩⟩
      · rw [if_neg z]
        obtain ⟨r, r1, r2⟩ := ih (a + 1) (by omega) (by omega)
        refine ⟨r, r1, ?_⟩
        rcases r2 with ⟨a', b1, b2⟩ | r2
        · exact .inl ⟨a', by omega, b2⟩
        · refine .inr fun a' h1 h2 => ?_
          by_cases y : a' = a
          · rw [y]; exact z
          · exact r2 a' (by omega) h2
theorem inv_densestW {s : gx_S} (h : INV s) {x y : Int} (hx : i32 x) (hy : i32 y) : twW s (gm_107 x y) (gm_201 x y) := by
  obtain ⟨f, R, C, n, pf, L, tb, c, r, v⟩ := id h
  have hx' := hx
  have hy' := hy
  unfold i32 at hx' hy'
  have hRC := RC_96 v.1.1.2.2.1 v.1.1.2.2.2
  have e6 : s.1 1 6 = f 2 := c.1.2.2.1
  have c57 := sp_57 (s := s) (a := 1) (by decide +kernel) (by rw [e6]; exact v.1.2.1)
  rw [e6] at c57
  have c58 := sp_58 (MR_cz c.1 v.1)
  have c148 : ∀ t : gx_S, gm_148 x t = _ := fun t => sp_148 t hx
  have c150 : ∀ t : gx_S, t.1 216 = f → gm_150 t = some (decide (f 2 = 7), t) := fun t et => by
    have := sp_150 (s := t) (by rw [et]; exact v.1.2.1)
    rw [et] at this
    exact this
  have s1 : gm_107 x y s = if (0 ≤ x ∧ x < 3) ∧ f 2 = 7 ∧ (0 ≤ y ∧ y < ((R * C : Nat) : Int)) then ((some (fx_rf 70 (x).toNat)).bind fun v38 => (gm_19 v38 32 s).bind fun q43 => if 0 ≤ y ∧ y < 96 then (if (-2147483648 ≤ (q43.1 1 5) ∧ (q43.1 1 5) ≤ 2147483647) then (if 0 ≤ (q43.1 (v38 + 2) (y).toNat) ∧ (q43.1 (v38 + 2) (y).toNat) ≤ 2147483647 ∧ 0 < (if 1 < (q43.1 1 5) then (q43.1 1 5) else 1) ∧ (if 1 < (q43.1 1 5) then (q43.1 1 5) else 1) ≤ 2147483647 then some (((12 * ((q43.1 (v38 + 2) (y).toNat) / (if 1 < (q43.1 1 5) then (q43.1 1 5) else 1))) + ((q43.1 (v38 + 2) (y).toNat) % (if 1 < (q43.1 1 5) then (q43.1 1 5) else 1))), q43) else none) else none) else none) else some (-1, s) := by
    unfold gm_107
    rw [sp_114 s hx, Option.bind_some]
    by_cases a : 0 ≤ x ∧ x < 3
    · rw [if_neg (fun q => (gbD s).mp q a)]
      show ((gm_57 1 s).bind _) = _
      rw [c57, Option.bind_some]
      by_cases b : f 2 = 7
      · rw [if_neg (fun q => (gbD s).mp q b), if_pos hy']
        by_cases d : y < 0
        · rw [if_pos d, if_neg (fun t : (0 ≤ x ∧ x < 3) ∧ f 2 = 7 ∧ (0 ≤ y ∧ y < ((R * C : Nat) : Int)) => by have := t.2.2; omega)]
        · rw [if_neg d]
          show ((gm_58 1 s).bind _) = _
          rw [c58, Option.bind_some]
          dsimp only
          rw [if_pos (by omega)]
          by_cases e : y < ((R * C : Nat) : Int)
          · rw [if_pos e, if_pos a, if_pos (show (0 ≤ x ∧ x < 3) ∧ f 2 = 7 ∧ (0 ≤ y ∧ y < ((R * C : Nat) : Int)) from ⟨a, b, by omega, e⟩)]
          · rw [if_neg e, if_neg (fun t : (0 ≤ x ∧ x < 3) ∧ f 2 = 7 ∧ (0 ≤ y ∧ y < ((R * C : Nat) : Int)) => e t.2.2.2)]
      · rw [if_pos ((gbD s).mpr b), if_neg (fun t : (0 ≤ x ∧ x < 3) ∧ f 2 = 7 ∧ (0 ≤ y ∧ y < ((R * C : Nat) : Int)) => b t.2.1)]
    · rw [if_pos ((gbD s).mpr a), if_neg (fun t : (0 ≤ x ∧ x < 3) ∧ f 2 = 7 ∧ (0 ≤ y ∧ y < ((R * C : Nat) : Int)) => a t.1)]
  have s2 : ∀ t : gx_S, t.1 216 = f → gm_201 x y t = if (0 ≤ x ∧ x < 3) ∧ f 2 = 7 ∧ (0 ≤ y ∧ y < ((R * C : Nat) : Int)) then ((gm_197 x t).bind fun q59 => gm_201_39 100000 y 0 q59) else some (-1, t) := fun t et => by
    have hm : t.1 216 0 * t.1 216 1 = ((R * C : Nat) : Int) := by rw [et, v.1.1.1, v.1.1.2.1]; simp
    unfold gm_201
    rw [c150 t et, Option.bind_some]
    by_cases b : f 2 = 7
    · rw [if_neg (fun q => (gbD t).mp q b)]
      show ((gm_148 x t).bind _) = _
      rw [c148 t, Option.bind_some]
      by_cases a : 0 ≤ x ∧ x ≤ 2
      · rw [if_neg (fun q => (gbD t).mp q a), if_pos hy']
        show ((gm_151 t).bind _) = _
        rw [sp_151, hm, Option.bind_some]
        dsimp only
        rw [if_pos (by omega), in_ t hy (by omega) (by omega), Option.bind_some]
        by_cases d : 0 ≤ y ∧ y ≤ ((R * C : Nat) : Int) - 1
        · rw [if_pos (fun q => (gbD t).mp q d), if_pos (show (0 ≤ x ∧ x < 3) ∧ f 2 = 7 ∧ (0 ≤ y ∧ y < ((R * C : Nat) : Int)) from ⟨by omega, b, by omega⟩)]
        · rw [if_neg (fun q => q ((gbD t).mpr d)), if_neg (fun t : (0 ≤ x ∧ x < 3) ∧ f 2 = 7 ∧ (0 ≤ y ∧ y < ((R * C : Nat) : Int)) => d (by have := t.2.2; omega))]
      · rw [if_pos ((gbD t).mpr a), if_neg (fun t : (0 ≤ x ∧ x < 3) ∧ f 2 = 7 ∧ (0 ≤ y ∧ y < ((R * C : Nat) : Int)) => a (by have := t.1; omega))]
    · rw [if_pos ((gbD t).mpr b), if_neg (fun t : (0 ≤ x ∧ x < 3) ∧ f 2 = 7 ∧ (0 ≤ y ∧ y < ((R * C : Nat) : Int)) => b t.2.1)]
  by_cases ok : (0 ≤ x ∧ x < 3) ∧ f 2 = 7 ∧ (0 ≤ y ∧ y < ((R * C : Nat) : Int))
  · rw [if_pos ok] at s1
    obtain ⟨a, h7, d⟩ := id ok
    obtain ⟨g, rfl⟩ : ∃ g : Nat, x = g := ⟨x.toNat, by omega⟩
    obtain ⟨y, rfl⟩ : ∃ y' : Nat, y = y' := ⟨y.toNat, by omega⟩
    have hg : g < 3 := by omega
    obtain ⟨D, u, u1, u2, u3, u4, u5, u6⟩ := CV_ready (w := 32) (by omega) v.1 h7 hg c
    have u1 : gm_19 (71 + 48 * g) 32 s = some u := u1
    have tm := (u4.2.2.2.2.2.2.2.2 u5).2 y (by omega)
    have kc : KC s u := KG_KC (ga_of hg) u3
    have ru := RV_KC kc r
    have eu : u.1 216 = f := ru.1
    have e5 : u.1 1 5 = C := u2.1.2.1.trans v.1.1.2.1
    have mC := v.1.2.2.2.2.2.2.2.2 (by omega)
    have c12 := v.1.1.2.2.2
    have eC : (if (1 : Int) < (C : Int) then (C : Int) else 1) = C := by split <;> omega
    have Mu : MP (u.1 216) R C := by rw [eu]; exact v.1
    obtain ⟨t, t1, t2, t3⟩ := sp_197 Mu (by rw [eu]; exact h7) hg
    rw [eu] at t3
    obtain ⟨r', r1, _⟩ := sl_201_39 (x := (y : Int)) (t := t) v.1 h7 hg hy (by rw [KRw_216 t2, eu]) t3 100000 0 (by omega) (by omega)
    have r1 : gm_201_39 100000 y 0 t = some (r', t) := r1
    have s2 := s2 u eu
    rw [if_pos ok, t1, Option.bind_some, r1] at s2
    rw [Option.bind_some, vg_ g hg, u1, Option.bind_some, e5, eC, show ((y : Int)).toNat = y by omega, if_pos (by omega), if_pos (by omega), if_pos (by omega)] at s1
    exact ⟨_, r', u, t, s1, s2, q_inv kc u2 r v t2⟩
  · rw [if_neg ok] at s1
    exact ⟨-1, -1, s, s, s1, (s2 s r.1).trans (if_neg ok), h⟩
end
section
/-! FIT: what zones and lands weigh; the class's rows of the zones that are there -/
theorem mul_r {a b A B : Int} (h1 : 0 ≤ a ∧ a ≤ A) (h2 : 0 ≤ b ∧ b ≤ B) : 0 ≤ a * b ∧ a * b ≤ A * B := ⟨Int.mul_nonneg h1.1 h2.1, Int.mul_le_mul h1.2 h2.2 h2.1 (by omega)⟩
theorem sg_bd {f : Nat → Int} {B : Int} : ∀ {n : Nat}, (∀ k, k < n → 0 ≤ f k ∧ f k ≤ B) → 0 ≤ sg f n ∧ sg f n ≤ n * B := by
  intro n
  induction n with
  | zero => intro _; exact ⟨Int.le_refl 0, by show (0 : Int) ≤ ((0 : Nat) : Int) * B; rw [Int.natCast_zero, Int.zero_mul]; exact Int.le_refl 0⟩
  | succ n ih =>
    intro h
    obtain ⟨a, b⟩ := ih fun k hk => h k (by omega)
    obtain ⟨c, d⟩ := h n (by omega)
    have e : sg f (n + 1) = sg f n + f n := rfl
    have e2 : ((n + 1 : Nat) : Int) * B = (n : Int) * B + B := by rw [Int.natCast_add, Int.add_mul]; simp
    rw [e, e2]
    generalize (n : Int) * B = t at *
    omega
abbrev KZ (X : Nat → Nat → Int) (z : Nat) : Prop := 0 < sg (fun l => X z l) 4
def rk (X : Nat → Nat → Int) : Nat → Nat
  | 0 => 0
  | z + 1 => rk X z + if KZ X z then 1 else 0
theorem rk_le (X : Nat → Nat → Int) : ∀ n : Nat, rk X n ≤ n := by
  intro n
  induction n with
  | zero => exact Nat.le_refl 0
  | succ n ih =>
    show rk X n + (if KZ X n then 1 else 0) ≤ n + 1
    split <;> omega
theorem rk_mono (X : Nat → Nat → Int) {a : Nat} : ∀ {b : Nat}, a ≤ b → rk X a ≤ rk X b := by
  intro b
  induction b with
  | zero => intro h; rw [show a = 0 by omega]; exact Nat.le_refl _
  | succ b ih =>
    intro h
    by_cases e : a = b + 1
    · rw [e]; exact Nat.le_refl _
    · have := ih (by omega)
      show _ ≤ rk X b + (if KZ X b then 1 else 0)
      omega
theorem rk_lt (X : Nat → Nat → Int) {z n : Nat} (hz : z < n) (h : KZ X z) : rk X z < rk X n := by
  have a : rk X (z + 1) = rk X z + 1 := by
    show rk X z + (if KZ X z then 1 else 0) = _
    rw [if_pos h]
  have b := rk_mono X (show z + 1 ≤ n by omega)
  omega
theorem rk_su (X : Nat → Nat → Int) : ∀ n i : Nat, i < rk X n → ∃ z, z < n ∧ KZ X z ∧ rk X z = i := by
  intro n
  induction n with
  | zero => intro i h; exact absurd h (Nat.not_lt_zero i)
  | succ n ih =>
    intro i h
    by_cases q : i < rk X n
    · obtain ⟨z, z1, z2⟩ := ih i q
      exact ⟨z, by omega, z2⟩
    · have h : i < rk X n + (if KZ X n then 1 else 0) := h
      by_cases k : KZ X n
      · rw [if_pos k] at h
        exact ⟨n, by omega, k, by omega⟩
      · rw [if_neg k] at h
        omega
theorem rk_sg (X : Nat → Nat → Int) (F : Nat → Int) : ∀ n : Nat, sg F (rk X n) = sg (fun z => if KZ X z then F (rk X z) else 0) n := by
  intro n
  induction n with
  | zero => rfl
  | succ n ih =>
    show sg F (rk X n + if KZ X n then 1 else 0) = sg (fun z => if KZ X z then F (rk X z) else 0) n + (if KZ X n then F (rk X n) else 0)
    by_cases h : KZ X n
    · rw [if_pos h, if_pos h, ← ih]
      rfl
    · rw [if_neg h, if_neg h, ← ih, Int.add_zero]
      rfl
def SZ (X : Nat → Nat → Int) (w : Nat → Int) (z : Nat) : Int := sg (fun l => w l * X z l) 4
def LC (X : Nat → Nat → Int) (l : Nat) : Int := sg (fun z => X z l) 8
def SA (X : Nat → Nat → Int) (w : Nat → Int) : Int := sg (fun l => w l * LC X l) 4
def ab (x : Int) : Int := if 0 < x then x else -x
def MS (X : Nat → Nat → Int) (c : Nat → Int) (P : Int) (w : Nat → Int) : Int := sg (fun z => if KZ X z then ab (c z * SA X w - P * SZ X w z) else 0) 8
/-- cells by zone and land, who was counted, all of them -/
def XB (X : Nat → Nat → Int) (c : Nat → Int) (P : Int) : Prop := (∀ z l, z < 8 → l < 4 → 0 ≤ X z l ∧ X z l ≤ 96) ∧ (∀ z, z < 8 → 0 ≤ c z ∧ c z ≤ 89991) ∧ 0 ≤ P ∧ P ≤ 89991
def wB9 (w : Nat → Int) : Prop := ∀ l, l < 4 → 0 ≤ w l ∧ w l ≤ 9
theorem LC_r {X : Nat → Nat → Int} {c : Nat → Int} {P : Int} (B : XB X c P) {l : Nat} (hl : l < 4) : 0 ≤ LC X l ∧ LC X l ≤ 768 := by
  have := sg_bd (f := fun z => X z l) (n := 8) fun z hz => B.1 z l hz hl
  unfold LC
  omega
theorem SZ_r {X : Nat → Nat → Int} {c : Nat → Int} {P : Int} {w : Nat → Int} (B : XB X c P) (W : wB9 w) {z : Nat} (hz : z < 8) : 0 ≤ SZ X w z ∧ SZ X w z ≤ 3456 := by
  have := sg_bd (f := fun l => w l * X z l) (n := 4) fun l hl => mul_r (W l hl) (B.1 z l hz hl)
  unfold SZ
  omega
theorem SA_r {X : Nat → Nat → Int} {c : Nat → Int} {P : Int} {w : Nat → Int} (B : XB X c P) (W : wB9 w) : 0 ≤ SA X w ∧ SA X w ≤ 27648 := by
  have := sg_bd (f := fun l => w l * LC X l) (n := 4) fun l hl => mul_r (W l hl) (LC_r B hl)
  unfold SA
  omega
theorem ab_r {x : Int} {A : Int} (h : -A ≤ x ∧ x ≤ A) : 0 ≤ ab x ∧ ab x ≤ A := by
  unfold ab
  split <;> omega
theorem df_r {X : Nat → Nat → Int} {c : Nat → Int} {P : Int} {w : Nat → Int} (B : XB X c P) (W : wB9 w) {z : Nat} (hz : z < 8) : -2488071168 ≤ c z * SA X w - P * SZ X w z ∧ c z * SA X w - P * SZ X w z ≤ 2488071168 := by
  have a := mul_r (B.2.1 z hz) (SA_r B W)
  have b := mul_r B.2.2 (SZ_r B W hz)
  generalize c z * SA X w = p at *
  generalize P * SZ X w z = q at *
  omega
theorem MS_r {X : Nat → Nat → Int} {c : Nat → Int} {P : Int} {w : Nat → Int} (B : XB X c P) (W : wB9 w) : 0 ≤ MS X c P w ∧ MS X c P w ≤ 19904569344 := by
  have := sg_bd (f := fun z => if KZ X z then ab (c z * SA X w - P * SZ X w z) else 0) (n := 8) (B := 2488071168) fun z hz => by
    have := ab_r (df_r B W hz)
    show 0 ≤ (if KZ X z then ab (c z * SA X w - P * SZ X w z) else 0) ∧ (if KZ X z then ab (c z * SA X w - P * SZ X w z) else 0) ≤ 2488071168
    split <;> omega
  unfold MS
  omega
/-- the fitter knows what it must fit -/
def FS (s : gx_S) (X : Nat → Nat → Int) (c : Nat → Int) (P : Int) : Prop := s.1 62 2 = (rk X 8 : Nat) ∧ (∀ z, z < 8 → KZ X z → s.1 64 (rk X z) = c z ∧ ∀ l, l < 4 → s.1 65 (4 * rk X z + l) = X z l) ∧ (∀ l, l < 4 → s.1 66 l = LC X l) ∧ s.2 62 1 = P
theorem FS_o {s u : gx_S} {X : Nat → Nat → Int} {c : Nat → Int} {P : Int} (o : ∀ a j, a = 62 ∨ a = 64 ∨ a = 65 ∨ a = 66 → u.1 a j = s.1 a j) (o2 : u.2 62 1 = s.2 62 1) (F : FS s X c P) : FS u X c P := ⟨(o _ _ (by omega)).trans F.1, fun z hz k => ⟨(o _ _ (by omega)).trans (F.2.1 z hz k).1, fun l hl => (o _ _ (by omega)).trans ((F.2.1 z hz k).2 l hl)⟩, fun l hl => (o _ _ (by omega)).trans (F.2.2.1 l hl), o2.trans F.2.2.2⟩
/-- it has weighed by w -/
def WS (s : gx_S) (X : Nat → Nat → Int) (w : Nat → Int) : Prop := (∀ z, z < 8 → KZ X z → s.1 68 (rk X z) = SZ X w z) ∧ s.2 62 8 = SA X w
theorem sl_13 {l Z : Nat} {w : Int} (hl : l < 4) (hZ : Z ≤ 8) : ∀ (n i : Nat) (t : gx_S), Z < n + i → i ≤ Z → t.1 62 2 = Z → (-2147483648 ≤ w * t.1 66 l ∧ w * t.1 66 l ≤ 2147483647) → ∃ u : gx_S, gm_13_2 n l w i t = some u ∧ (∀ a j, a ≠ 68 → u.1 a j = t.1 a j) ∧ (∀ j, u.1 68 j = t.1 68 j + if i ≤ j ∧ j < Z then w * t.1 65 (4 * j + l) else 0) ∧ u.2 62 8 = t.2 62 8 + w * t.1 66 l ∧ ∀ a j, ¬ (a = 62 ∧ j = 8) → u.2 a j = t.2 a j := by
  intro n
  induction n with
  | zero => intro i t h; omega
  | succ n ih =>
    intro i t h hi e2 r
    have i4 : ((l : Int)).toNat = l := by omega
    rw [gm_13_2, e2, if_pos (by omega), if_pos (by omega)]
    by_cases q : i = Z
    · rw [if_pos (by omega), if_pos (by omega), i4, if_pos r]
      refine ⟨_, rfl, fun _ _ _ => rfl, fun j => ?_, ?_, fun a j h => ?_⟩
      · rw [if_neg (show ¬ (i ≤ j ∧ j < Z) by omega), Int.add_zero]
        rfl
      · rw [gw2_2, if_pos ⟨rfl, rfl⟩]
      · rw [gw2_2, if_neg h]
    · have ce : ((i : Int) + 1) = ((i + 1 : Nat) : Int) := rfl
      have i1 : ((i : Int)).toNat = i := by omega
      have i2 : (((i : Int) * 4) + (l : Int)).toNat = 4 * i + l := by omega
      rw [if_neg (by omega), if_pos (by omega), if_pos (by omega), i1, i2, ce]
      obtain ⟨u, u1, u2, u3, u4, u5⟩ := ih (i + 1) (gw1 t 68 i (t.1 68 i + w * t.1 65 (4 * i + l))) (by omega) (by omega) (by rw [gw1_1, if_neg (by omega)]; exact e2) (by rw [gw1_1, if_neg (by omega)]; exact r)
      refine ⟨u, u1, fun a j h => by rw [u2 a j h, gw1_1, if_neg (fun x => h x.1)], fun j => ?_, ?_, fun a j h => u5 a j h⟩
      · rw [u3, gw1_1 t 68 i _ 68 j, gw1_1 t 68 i _ 65 (4 * j + l), if_neg (show ¬ ((65 : Nat) = 68 ∧ 4 * j + l = i) by omega)]
        by_cases z : j = i
        · rw [if_pos (show (68 : Nat) = 68 ∧ j = i from ⟨rfl, z⟩), if_neg (show ¬ (i + 1 ≤ j ∧ j < Z) by omega), if_pos (show i ≤ j ∧ j < Z by omega), z, Int.add_zero]
        · rw [if_neg (show ¬ ((68 : Nat) = 68 ∧ j = i) from fun x => z x.2)]
          by_cases y : i + 1 ≤ j ∧ j < Z
          · rw [if_pos y, if_pos (show i ≤ j ∧ j < Z by omega)]
          · rw [if_neg y, if_neg (show ¬ (i ≤ j ∧ j < Z) by omega)]
      · rw [u4, gw1_1, if_neg (by omega)]
        rfl
theorem sp_13 {s : gx_S} {X : Nat → Nat → Int} {c : Nat → Int} {P w : Int} {l : Nat} (F : FS s X c P) (B : XB X c P) (hl : l < 4) (hw : -9 ≤ w ∧ w ≤ 9) : ∃ u : gx_S, gm_13 l w s = some u ∧ (∀ a j, a ≠ 68 → u.1 a j = s.1 a j) ∧ (∀ z, z < 8 → KZ X z → u.1 68 (rk X z) = s.1 68 (rk X z) + w * X z l) ∧ u.2 62 8 = s.2 62 8 + w * LC X l ∧ ∀ a j, ¬ (a = 62 ∧ j = 8) → u.2 a j = s.2 a j := by
  have lr := LC_r B hl
  have e66 := F.2.2.1 l hl
  have r1 := Int.mul_le_mul_of_nonneg_right hw.1 lr.1
  have r2 := Int.mul_le_mul_of_nonneg_right hw.2 lr.1
  obtain ⟨u, u1, u2, u3, u4, u5⟩ := sl_13 (w := w) hl (rk_le X 8) 100000 0 s (by have := rk_le X 8; omega) (by omega) F.1 (by rw [e66]; omega)
  have u1 : gm_13_2 100000 l w 0 s = some u := u1
  refine ⟨u, u1, u2, fun z hz k => ?_, by rw [u4, e66], u5⟩
  have q := rk_lt X hz k
  rw [u3, if_pos ⟨by omega, q⟩, (F.2.1 z hz k).2 l hl]
theorem sl_12 {X : Nat → Nat → Int} {c : Nat → Int} {P : Int} {k a m : Nat} {w : Nat → Int} (B : XB X c P) (hk : gx_a 0 k m = true) (ha : a + 4 ≤ m) (k8 : k ≠ 68) (hw : wB9 w) : ∀ (n j : Nat) (t : gx_S), 4 < n + j → j ≤ 4 → FS t X c P → (∀ l, l < 4 → t.1 k (a + l) = w l) → (∀ z, z < 8 → KZ X z → t.1 68 (rk X z) = sg (fun l => w l * X z l) j) → t.2 62 8 = sg (fun l => w l * LC X l) j → ∃ u : gx_S, gm_12_15 n k a j t = some (SA X w, u) ∧ WS u X w ∧ (∀ b i, b ≠ 68 → u.1 b i = t.1 b i) ∧ ∀ b i, ¬ (b = 62 ∧ i = 8) → u.2 b i = t.2 b i := by
  obtain ⟨g1, g2⟩ := gx_a_p hk
  intro n
  induction n with
  | zero => intro j t h; omega
  | succ n ih =>
    intro j t h hj F ew e68 e8
    rw [gm_12_15, if_pos (by omega)]
    by_cases q : j = 4
    · rw [if_pos (by omega)]
      rw [q] at e68 e8
      exact ⟨t, by rw [e8]; rfl, ⟨e68, e8⟩, fun _ _ _ => rfl, fun _ _ _ => rfl⟩
    · have ce : ((j : Int) + 1) = ((j + 1 : Nat) : Int) := rfl
      have i2 : ((a : Int) + (j : Int)).toNat = a + j := by omega
      have wj := hw j (by omega)
      obtain ⟨v, v1, v2, v3, v4, v5⟩ := sp_13 (w := w j) (l := j) F B (by omega) (by omega)
      rw [if_neg (by omega), if_pos g1, g2, if_pos (by omega), i2, ew j (by omega), v1, Option.bind_some, ce]
      obtain ⟨u, u1, u2, u3, u4⟩ := ih (j + 1) v (by omega) (by omega) (FS_o (fun b i h => v2 b i (by omega)) (v5 _ _ (by omega)) F) (fun l hl => by rw [v2 _ _ k8]; exact ew l hl) (fun z hz y => by rw [v3 z hz y, e68 z hz y]; rfl) (by rw [v4, e8]; rfl)
      exact ⟨u, u1, u2, fun b i h => (u3 b i h).trans (v2 b i h), fun b i h => (u4 b i h).trans (v5 b i h)⟩
theorem sp_12 {s : gx_S} {X : Nat → Nat → Int} {c : Nat → Int} {P : Int} {k a m : Nat} {w : Nat → Int} (F : FS s X c P) (B : XB X c P) (hk : gx_a 0 k m = true) (ha : a + 4 ≤ m) (k8 : k ≠ 68) (hw : wB9 w) (ew : ∀ l, l < 4 → s.1 k (a + l) = w l) : ∃ u : gx_S, gm_12 k a s = some (SA X w, u) ∧ WS u X w ∧ (∀ b i, b ≠ 68 → u.1 b i = s.1 b i) ∧ ∀ b i, ¬ (b = 62 ∧ i = 8) → u.2 b i = s.2 b i := by
  obtain ⟨t, t1, t2, t3, t4⟩ := sp_235g (k := 68) (n := 8) 0 s (by decide +kernel) (by omega) (by omega)
  obtain ⟨v, hv⟩ : ∃ v, v = gw2 t 62 8 0 := ⟨_, rfl⟩
  have v1 : ∀ b i, b ≠ 68 → v.1 b i = s.1 b i := fun b i h => by rw [hv]; exact t3 b i h
  have v2 : ∀ b i, ¬ (b = 62 ∧ i = 8) → v.2 b i = s.2 b i := fun b i h => by rw [hv, gw2_2, if_neg h, t2]
  obtain ⟨u, u1, u2, u3, u4⟩ := sl_12 (w := w) B hk ha k8 hw 100000 0 v (by omega) (by omega) (FS_o (fun b i h => v1 b i (by omega)) (v2 _ _ (by omega)) F) (fun l hl => by rw [v1 _ _ k8]; exact ew l hl) (fun z hz y => by
    have q := rk_lt X hz y
    have q2 := rk_le X 8
    rw [hv]
    show t.1 68 (rk X z) = 0
    rw [t4, if_pos (by omega)]) (by rw [hv, gw2_2, if_pos ⟨rfl, rfl⟩]; rfl)
  have u1 : gm_12_15 100000 k a 0 v = some (SA X w, u) := u1
  refine ⟨u, ?_, u2, fun b i h => (u3 b i h).trans (v1 b i h), fun b i h => (u4 b i h).trans (v2 b i h)⟩
  unfold gm_12
  rw [t1, Option.bind_some, ← hv, u1]
def dfi (s : gx_S) (i : Nat) : Int := (s.1 64 i * s.2 62 8) - (s.2 62 1 * s.1 68 i)
theorem sl_14 {s : gx_S} {Z : Nat} (hZ : Z ≤ 8) (e2 : s.1 62 2 = Z) (r1 : ∀ i, i < Z → i32 (s.1 64 i) ∧ i32 (s.1 68 i) ∧ (-9223372036854775808 ≤ dfi s i ∧ dfi s i ≤ 9223372036854775807)) : ∀ (n i : Nat), Z < n + i → i ≤ Z → gm_14_4 n (sg (fun i => ab (dfi s i)) i) i s = some (sg (fun i => ab (dfi s i)) Z, s) := by
  intro n
  induction n with
  | zero => intro i h; omega
  | succ n ih =>
    intro i h hi
    rw [gm_14_4, e2, if_pos (by omega), if_pos (by omega)]
    by_cases q : i = Z
    · rw [if_pos (by omega), q]
    · have ce : ((i : Int) + 1) = ((i + 1 : Nat) : Int) := rfl
      have i1 : ((i : Int)).toNat = i := by omega
      obtain ⟨a, b, d⟩ := r1 i (by omega)
      unfold i32 at a b
      unfold dfi at d
      rw [if_neg (by omega), if_pos (by omega), i1, if_pos a, if_pos b, if_pos d, ce]
      exact ih (i + 1) (by omega) (by omega)
theorem sp_14 {s : gx_S} {X : Nat → Nat → Int} {c : Nat → Int} {P : Int} {w : Nat → Int} (F : FS s X c P) (B : XB X c P) (hw : wB9 w) (S : WS s X w) : gm_14 s = some (MS X c P w, s) := by
  have e : ∀ z, z < 8 → KZ X z → dfi s (rk X z) = c z * SA X w - P * SZ X w z := fun z hz k => by
    unfold dfi
    rw [(F.2.1 z hz k).1, S.2, F.2.2.2, S.1 z hz k]
  have st := sl_14 (rk_le X 8) F.1 (fun i hi => by
    obtain ⟨z, hz, k, rfl⟩ := rk_su X 8 i hi
    have a := B.2.1 z hz
    have b := SZ_r B hw hz
    have d := df_r B hw hz
    rw [← e z hz k] at d
    unfold i32
    rw [(F.2.1 z hz k).1, S.1 z hz k]
    omega) 100000 0 (by have := rk_le X 8; omega) (by omega)
  have st : gm_14_4 100000 0 0 s = _ := st
  unfold gm_14
  rw [st, rk_sg]
  have q : sg (fun z => if KZ X z then ab (dfi s (rk X z)) else 0) 8 = MS X c P w := sg_eq fun z hz => by
    by_cases k : KZ X z
    · rw [if_pos k, if_pos k, e z hz k]
    · rw [if_neg k, if_neg k]
  show some (sg (fun z => if KZ X z then ab (dfi s (rk X z)) else 0) 8, s) = _
  rw [q]
end
section
/-! FIT: cells by zone and land; the class looks -/
def CLn (f : Nat → Int) (C z l n : Nat) : Int := sg (fun k => bi (co f C 0 k = z ∧ co f C 2 k = l)) n
theorem CLn_r (f : Nat → Int) (C z l : Nat) : ∀ n : Nat, 0 ≤ CLn f C z l n ∧ CLn f C z l n ≤ n := by
  intro n
  refine ⟨sg_nn fun k _ => (bi_r _).1, ?_⟩
  rw [← sg_one n]
  exact sg_le fun k _ => (bi_r _).2
def CL (f : Nat → Int) (R C z l : Nat) : Int := CLn f C z l (R * C)
theorem CL_NC {f : Nat → Int} {R C z : Nat} (M : MP f R C) (h7 : f 2 = 7) : sg (fun l => CL f R C z l) 4 = NC f R C 0 z := by
  unfold NC
  rw [if_pos (by rw [h7]; rfl)]
  refine (sg_swap (fun l k => bi (co f C 0 k = z ∧ co f C 2 k = l)) (R * C) 4).trans (sg_eq fun k hk => ?_)
  show sg (fun l => bi (co f C 0 k = z ∧ co f C 2 k = l)) 4 = bi (f (52 + 96 * 0 + 12 * (k / C) + k % C) = (z : Int))
  have cs := co_s M h7 hk
  rw [cs.1.1]
  by_cases q : co f C 0 k = z
  · have e := sg_single (f := fun l => bi (co f C 0 k = z ∧ co f C 2 k = l)) (n := 4) (i := co f C 2 k) (by omega) fun c hc h => by
      show bi (co f C 0 k = z ∧ co f C 2 k = c) = 0
      unfold bi
      rw [if_neg (fun t => h t.2.symm)]
    rw [e]
    unfold bi
    rw [if_pos ⟨q, rfl⟩, if_pos (by rw [q])]
  · have e := sg_0 (f := fun l => bi (co f C 0 k = z ∧ co f C 2 k = l)) (n := 4) fun c hc => by
      show bi (co f C 0 k = z ∧ co f C 2 k = c) = 0
      unfold bi
      rw [if_neg (fun t => q t.1)]
    rw [e]
    unfold bi
    rw [if_neg (fun t => q (by omega))]
theorem CL_KZ {f : Nat → Int} {R C z : Nat} (M : MP f R C) (h7 : f 2 = 7) : KZ (CL f R C) z ↔ 0 < NC f R C 0 z := by
  show 0 < sg (fun l => CL f R C z l) 4 ↔ _
  rw [CL_NC M h7]
theorem CL_z {f : Nat → Int} {R C z : Nat} (M : MP f R C) (h7 : f 2 = 7) (h : ¬ 0 < NC f R C 0 z) {l : Nat} (hl : l < 4) : CL f R C z l = 0 := by
  have a := sg_at (f := fun l => CL f R C z l) (n := 4) (fun k _ => (CLn_r f C z k (R * C)).1) l hl
  have b := (CLn_r f C z l (R * C)).1
  have a : CL f R C z l ≤ sg (fun l => CL f R C z l) 4 := a
  have b : 0 ≤ CL f R C z l := b
  rw [CL_NC M h7] at a
  omega
/-- who was counted, all of them -/
def Cc (f : Nat → Int) (g z : Nat) : Int := f (5 + 9 * g + z)
def CP (f : Nat → Int) (R C g : Nat) : Int := sg (L0 f R C g) 8
theorem CL_XB {f : Nat → Int} {R C g : Nat} (M : MP f R C) (hg : g < 3) : XB (CL f R C) (Cc f g) (CP f R C g) := by
  have hRC := RC_96 M.1.2.2.1 M.1.2.2.2
  obtain ⟨a, b⟩ := M.2.2.2.2.1 g hg
  obtain ⟨l1, l2⟩ := L0_r M hg
  have u := UN_r M hg
  refine ⟨fun z l _ _ => ?_, fun z hz => ?_, sg_nn l1, ?_⟩
  · have := CLn_r f C z l (R * C)
    show 0 ≤ CLn f C z l (R * C) ∧ CLn f C z l (R * C) ≤ 96
    omega
  · have := sg_at a z (by omega)
    have := a z (by omega)
    show 0 ≤ f (5 + 9 * g + z) ∧ f (5 + 9 * g + z) ≤ 89991
    omega
  · show sg (L0 f R C g) 8 ≤ 89991
    omega
theorem sl_11 {f : Nat → Int} {R C z ρ : Nat} {A : Nat → Int} (M : MP f R C) (h7 : f 2 = 7) (hz : z < 8) (hρ : ρ < 8) : ∀ (n k : Nat) (t : gx_S), R * C < n + k → k ≤ R * C → MR t 1 f R C → t.1 62 2 = ρ → (∀ l, l < 4 → t.1 65 (4 * ρ + l) = CLn f C z l k) → (∀ l, l < 4 → t.1 66 l = A l + CLn f C z l k) → ∃ u : gx_S, gm_11_8 n 1 z ((R * C : Nat) : Int) k t = some u ∧ u.2 = t.2 ∧ (∀ a i, a ≠ 65 → a ≠ 66 → u.1 a i = t.1 a i) ∧ (∀ l, l < 4 → u.1 65 (4 * ρ + l) = CLn f C z l (R * C)) ∧ (∀ l, l < 4 → u.1 66 l = A l + CLn f C z l (R * C)) ∧ ∀ i, ¬ (4 * ρ ≤ i ∧ i < 4 * ρ + 4) → u.1 65 i = t.1 65 i := by
  intro n
  induction n with
  | zero => intro k t h; omega
  | succ n ih =>
    intro k t h hk m e2 e65 e66
    have hRC := RC_96 M.1.2.2.1 M.1.2.2.2
    rw [gm_11_8, if_pos (by omega), if_pos (by omega)]
    by_cases q : k = R * C
    · rw [if_pos (by omega)]
      rw [q] at e65 e66
      exact ⟨t, rfl, rfl, fun _ _ _ _ => rfl, e65, e66, fun _ _ => rfl⟩
    · have hkk : k < R * C := by omega
      have cs := co_s M h7 hkk
      obtain ⟨g0, g1, g2⟩ := sp_60g m M h7 hkk
      have ce : ((k : Int) + 1) = ((k + 1 : Nat) : Int) := rfl
      have st : ∀ l, CLn f C z l (k + 1) = CLn f C z l k + bi (co f C 0 k = z ∧ co f C 2 k = l) := fun l => rfl
      rw [if_neg (by omega), g0, Option.bind_some]
      dsimp only
      rw [if_pos (by omega), if_pos (by omega)]
      by_cases y : co f C 0 k = z
      · rw [if_neg (show ¬ ¬ (co f C 0 k : Int) = (z : Int) by omega), g2, Option.bind_some]
        dsimp only
        have i1 : ((ρ : Int) * 4 + (co f C 2 k : Int)).toNat = 4 * ρ + co f C 2 k := by omega
        have i2 : ((co f C 2 k : Int)).toNat = co f C 2 k := by omega
        rw [e2, if_pos (by omega), if_pos (by omega), i1, i2]
        unfold gm_11_63
        rw [ce]
        have l4 : co f C 2 k < 4 := by omega
        generalize co f C 2 k = l0 at st l4
        obtain ⟨v, hv⟩ : ∃ v, v = gw1 (gw1 t 65 (4 * ρ + l0) (t.1 65 (4 * ρ + l0) + 1)) 66 l0 ((gw1 t 65 (4 * ρ + l0) (t.1 65 (4 * ρ + l0) + 1)).1 66 l0 + 1) := ⟨_, rfl⟩
        have vo : ∀ a i, a ≠ 65 → a ≠ 66 → v.1 a i = t.1 a i := fun a i h1 h2 => by rw [hv, gw1_1, if_neg (fun x => h2 x.1), gw1_1, if_neg (fun x => h1 x.1)]
        have v65 : ∀ i, v.1 65 i = if i = 4 * ρ + l0 then t.1 65 (4 * ρ + l0) + 1 else t.1 65 i := fun i => by
          rw [hv, gw1_1, if_neg (by omega), gw1_1]
          by_cases p : i = 4 * ρ + l0
          · rw [if_pos ⟨rfl, p⟩, if_pos p]
          · rw [if_neg (fun x => p x.2), if_neg p]
        have v66 : ∀ i, v.1 66 i = if i = l0 then t.1 66 l0 + 1 else t.1 66 i := fun i => by
          rw [hv, gw1_1]
          by_cases p : i = l0
          · rw [if_pos ⟨rfl, p⟩, if_pos p, gw1_1, if_neg (by omega)]
          · rw [if_neg (fun x => p x.2), if_neg p, gw1_1, if_neg (by omega)]
        have v2 : v.2 = t.2 := by rw [hv]; rfl
        rw [← hv]
        have bl : ∀ l, bi (co f C 0 k = z ∧ l0 = l) = if l = l0 then 1 else 0 := fun l => by
          unfold bi
          by_cases p : l = l0
          · rw [if_pos p, if_pos ⟨y, p.symm⟩]
          · rw [if_neg p, if_neg (fun x => p x.2.symm)]
        obtain ⟨u, u1, u2, u3, u4, u5, u6⟩ := ih (k + 1) v (by omega) (by omega) (MR_o (fun a i h1 h2 => vo a i (by omega) (by omega)) m) (by rw [vo _ _ (by decide) (by decide)]; exact e2) (fun l hl => by
          rw [v65, st, bl]
          by_cases p : l = l0
          · rw [if_pos (by omega), if_pos p, ← p, e65 l hl]
          · rw [if_neg (by omega), if_neg p, e65 l hl, Int.add_zero]) (fun l hl => by
          rw [v66, st, bl]
          by_cases p : l = l0
          · rw [if_pos p, if_pos p, ← p, e66 l hl, Int.add_assoc]
          · rw [if_neg p, if_neg p, e66 l hl, Int.add_zero])
        refine ⟨u, u1, u2.trans v2, fun a i h1 h2 => (u3 a i h1 h2).trans (vo a i h1 h2), u4, u5, fun i hi => ?_⟩
        rw [u6 i hi, v65, if_neg (by omega)]
      · rw [if_pos (show ¬ (co f C 0 k : Int) = (z : Int) by omega)]
        unfold gm_11_63
        rw [ce]
        have bl : ∀ l, bi (co f C 0 k = z ∧ co f C 2 k = l) = 0 := fun l => by
          unfold bi
          rw [if_neg (fun x => y x.1)]
        exact ih (k + 1) t (by omega) (by omega) m e2 (fun l hl => by rw [st, bl, Int.add_zero]; exact e65 l hl) (fun l hl => by rw [st, bl, Int.add_zero]; exact e66 l hl)
/-- what is seen of the zones below j -/
def LK (t : gx_S) (f : Nat → Int) (R C g j : Nat) : Prop := t.1 62 2 = (rk (CL f R C) j : Nat) ∧ (∀ z, z < j → KZ (CL f R C) z → t.1 64 (rk (CL f R C) z) = Cc f g z ∧ ∀ l, l < 4 → t.1 65 (4 * rk (CL f R C) z + l) = CL f R C z l) ∧ (∀ i, 4 * rk (CL f R C) j ≤ i → i < 32 → t.1 65 i = 0) ∧ (∀ l, l < 4 → t.1 66 l = sg (fun z => CL f R C z l) j) ∧ t.2 62 1 = sg (L0 f R C g) j
theorem sl_10 {f : Nat → Int} {R C g : Nat} (M : MP f R C) (h7 : f 2 = 7) (hg : g < 3) : ∀ (n j : Nat) (t : gx_S), 8 < n + j → j ≤ 8 → MR t 1 f R C → LK t f R C g j → ∃ u : gx_S, gm_10_28 n 1 g j t = some (gcp u 4 (4 * g) 63 0 4) ∧ LK u f R C g 8 ∧ (∀ a i, ¬ (62 ≤ a ∧ a ≤ 66) → u.1 a i = t.1 a i) ∧ ∀ a i, a ≠ 62 → u.2 a i = t.2 a i := by
  intro n
  induction n with
  | zero => intro j t h; omega
  | succ n ih =>
    intro j t h hj m lk
    have hRC := RC_96 M.1.2.2.1 M.1.2.2.2
    rw [gm_10_28, if_pos (by omega)]
    by_cases q : j = 8
    · have i1 : ((g : Int) * 4).toNat = 4 * g := by omega
      rw [if_pos (by omega), if_pos (by omega), i1]
      rw [q] at lk
      exact ⟨t, rfl, lk, fun _ _ _ => rfl, fun _ _ _ => rfl⟩
    · have ce : ((j : Int) + 1) = ((j + 1 : Nat) : Int) := rfl
      have c62 := sp_62g m M 0 j (by omega) (by omega)
      have c62 : gm_62 1 0 j t = some (NC f R C 0 j, t) := c62
      have nn := NC_nn f R C 0 j
      rw [← Int.natCast_mul] at nn
      obtain ⟨k1, k2, k3, k4, k5⟩ := lk
      rw [if_neg (by omega), c62, Option.bind_some]
      dsimp only
      rw [if_pos (by omega)]
      by_cases y : 0 < NC f R C 0 j
      · have kz := (CL_KZ M h7).mpr y
        have rj : rk (CL f R C) (j + 1) = rk (CL f R C) j + 1 := by
          show rk (CL f R C) j + (if KZ (CL f R C) j then 1 else 0) = _
          rw [if_pos kz]
        have r8 := rk_le (CL f R C) j
        obtain ⟨u, u1, u2, u3, u4, u5, u6⟩ := sl_11 (A := fun l => sg (fun z => CL f R C z l) j) M h7 (show j < 8 by omega) (show rk (CL f R C) j < 8 by omega) 100000 0 t (by omega) (by omega) m k1 (fun l hl => k3 _ (by omega) (by omega)) (fun l hl => by rw [k4 l hl]; exact (Int.add_zero _).symm)
        have u1 : gm_11_8 100000 1 j ((R * C : Nat) : Int) 0 t = some u := u1
        have s11 : gm_11 1 j t = some u := by
          unfold gm_11
          rw [if_pos (by decide +kernel), sp_58 (MR_cz m M), Option.bind_some, u1]
        have mu : MR u 1 f R C := MR_o (fun a i h1 h2 => u3 a i (by omega) (by omega)) m
        have e2 : u.1 62 2 = (rk (CL f R C) j : Nat) := (u3 _ _ (by decide) (by decide)).trans k1
        have i1 : (((rk (CL f R C) j : Nat) : Int)).toNat = rk (CL f R C) j := by omega
        have i2 : ((g : Int) * 9 + (j : Int)).toNat = 9 * g + j := by omega
        have ec : u.1 (1 + 2) (9 * g + j) = Cc f g j := by
          rw [mu.2.2.2.2.2.1 (9 * g + j) (by omega)]
          unfold Cc
          rw [Nat.add_assoc]
        have cb := (CL_XB M hg).2.1 j (by omega)
        rw [if_neg (by omega), s11, Option.bind_some, if_pos (by omega), e2, if_pos (by omega), i1, i2, ec]
        obtain ⟨a, ha⟩ : ∃ a, a = gw1 u 64 (rk (CL f R C) j) (Cc f g j) := ⟨_, rfl⟩
        have a1 : ∀ b i, ¬ (b = 64 ∧ i = rk (CL f R C) j) → a.1 b i = u.1 b i := fun b i h => by rw [ha, gw1_1, if_neg h]
        have a2 : a.1 64 (rk (CL f R C) j) = Cc f g j := by rw [ha, gw1_1, if_pos ⟨rfl, rfl⟩]
        have a3 : a.2 = t.2 := by rw [ha]; exact u2
        have a62 : a.1 62 2 = (rk (CL f R C) j : Nat) := (a1 _ _ (by omega)).trans e2
        rw [← ha, a62, if_pos (by omega), i1, a2, if_pos (by omega)]
        unfold gm_10_98
        obtain ⟨b, hb⟩ : ∃ b, b = gw1 (gw2 a 62 1 (a.2 62 1 + Cc f g j)) 62 2 ((gw2 a 62 1 (a.2 62 1 + Cc f g j)).1 62 2 + 1) := ⟨_, rfl⟩
        have b1 : ∀ d i, ¬ (d = 62 ∧ i = 2) → b.1 d i = a.1 d i := fun d i h => by rw [hb, gw1_1, if_neg h]; rfl
        have b2 : b.1 62 2 = (rk (CL f R C) (j + 1) : Nat) := by
          rw [hb, gw1_1, if_pos ⟨rfl, rfl⟩, rj]
          show a.1 62 2 + 1 = _
          rw [a62]
          rfl
        have b3 : b.2 62 1 = sg (L0 f R C g) (j + 1) := by
          rw [hb, gw1_2, gw2_2, if_pos ⟨rfl, rfl⟩, a3, k5]
          show _ = sg (L0 f R C g) j + L0 f R C g j
          unfold L0
          rw [if_pos y]
          rfl
        have b4 : ∀ d i, d ≠ 62 → b.2 d i = t.2 d i := fun d i h => by rw [hb, gw1_2, gw2_2, if_neg (fun x => h x.1), a3]
        have bo : ∀ d i, ¬ (62 ≤ d ∧ d ≤ 66) → b.1 d i = t.1 d i := fun d i h => by rw [b1 d i (by omega), a1 d i (by omega), u3 d i (by omega) (by omega)]
        have b65 : ∀ i, b.1 65 i = u.1 65 i := fun i => by rw [b1 _ _ (by omega), a1 _ _ (by omega)]
        rw [← hb, ce]
        have lk' : LK b f R C g (j + 1) := by
          refine ⟨b2, fun z hz kz' => ?_, fun i h1 h2 => ?_, fun l hl => ?_, b3⟩
          · by_cases p : z = j
            · rw [p]
              exact ⟨by rw [b1 _ _ (by omega)]; exact a2, fun l hl => by rw [b65]; exact u4 l hl⟩
            · have rl := rk_lt (CL f R C) (show z < j by omega) kz'
              obtain ⟨x1, x2⟩ := k2 z (by omega) kz'
              refine ⟨?_, fun l hl => ?_⟩
              · rw [b1 _ _ (by omega), a1 _ _ (by omega), u3 _ _ (by decide) (by decide), x1]
              · rw [b65, u6 _ (by omega), x2 l hl]
          · rw [rj] at h1
            rw [b65, u6 _ (by omega)]
            exact k3 i (by omega) h2
          · rw [b1 _ _ (by omega), a1 _ _ (by omega), u5 l hl]
            rfl
        obtain ⟨w, w1, w2, w3, w4⟩ := ih (j + 1) b (by omega) (by omega) (MR_o (fun d i h1 h2 => bo d i (by omega)) m) lk'
        exact ⟨w, w1, w2, fun d i h => (w3 d i h).trans (bo d i h), fun d i h => (w4 d i h).trans (b4 d i h)⟩
      · have kz : ¬ KZ (CL f R C) j := fun k => y ((CL_KZ M h7).mp k)
        have rj : rk (CL f R C) (j + 1) = rk (CL f R C) j := by
          show rk (CL f R C) j + (if KZ (CL f R C) j then 1 else 0) = _
          rw [if_neg kz, Nat.add_zero]
        rw [if_pos (by omega)]
        unfold gm_10_98
        rw [ce]
        refine ih (j + 1) t (by omega) (by omega) m ⟨by rw [rj]; exact k1, fun z hz kz' => ?_, fun i h1 h2 => k3 i (by omega) h2, fun l hl => ?_, ?_⟩
        · by_cases p : z = j
          · rw [p] at kz'
            exact absurd kz' kz
          · exact k2 z (by omega) kz'
        · show _ = sg (fun z => CL f R C z l) j + CL f R C j l
          rw [CL_z M h7 y hl, Int.add_zero]
          exact k4 l hl
        · show _ = sg (L0 f R C g) j + L0 f R C g j
          rw [k5]
          unfold L0
          rw [if_neg y, Int.add_zero]
theorem sp_10 {s : gx_S} {f : Nat → Int} {R C g : Nat} (m : MR s 1 f R C) (M : MP f R C) (h7 : f 2 = 7) (hg : g < 3) : ∃ u : gx_S, gm_10 1 g s = some u ∧ FS u (CL f R C) (Cc f g) (CP f R C g) ∧ (∀ l, l < 4 → u.1 63 l = f (32 + 4 * g + l)) ∧ (∀ a i, ¬ (62 ≤ a ∧ a ≤ 66) → u.1 a i = s.1 a i) ∧ ∀ a i, a ≠ 62 → u.2 a i = s.2 a i := by
  obtain ⟨t, t1, t2, t3, t4⟩ := sp_235g (k := 65) (n := 32) 0 s (by decide +kernel) (by omega) (by omega)
  obtain ⟨v, v1, v2, v3, v4⟩ := sp_235g (k := 66) (n := 4) 0 t (by decide +kernel) (by omega) (by omega)
  obtain ⟨b, hb⟩ : ∃ b, b = gw2 (gw1 v 62 2 0) 62 1 0 := ⟨_, rfl⟩
  have bo : ∀ d i, ¬ (62 ≤ d ∧ d ≤ 66) → b.1 d i = s.1 d i := fun d i h => by
    rw [hb]
    show (gw1 v 62 2 0).1 d i = _
    rw [gw1_1, if_neg (by omega), v3 d i (by omega), t3 d i (by omega)]
  have b2 : ∀ d i, d ≠ 62 → b.2 d i = s.2 d i := fun d i h => by
    rw [hb, gw2_2, if_neg (fun x => h x.1), gw1_2, v2, t2]
  have mb : MR b 1 f R C := MR_o (fun d i h1 h2 => bo d i (by omega)) m
  obtain ⟨u, u1, u2, u3, u4⟩ := sl_10 M h7 hg 100000 0 b (by omega) (by omega) mb ⟨by
    rw [hb]
    show (gw1 v 62 2 0).1 62 2 = _
    rw [gw1_1, if_pos ⟨rfl, rfl⟩]
    rfl, fun z hz => absurd hz (Nat.not_lt_zero z), fun i h1 h2 => by
    rw [hb]
    show (gw1 v 62 2 0).1 65 i = _
    rw [gw1_1, if_neg (by omega), v3 _ _ (by omega), t4, if_pos h2], fun l hl => by
    rw [hb]
    show (gw1 v 62 2 0).1 66 l = _
    rw [gw1_1, if_neg (by omega), v4, if_pos hl]
    rfl, by rw [hb, gw2_2, if_pos ⟨rfl, rfl⟩]; rfl⟩
  have u1 : gm_10_28 100000 1 g 0 b = _ := u1
  obtain ⟨w, hw⟩ : ∃ w, w = gcp u 4 (4 * g) 63 0 4 := ⟨_, rfl⟩
  have w1 : ∀ d i, d ≠ 63 → w.1 d i = u.1 d i := fun d i h => by rw [hw, gcp_1, if_neg (fun x => h x.1)]
  have w2 : w.2 = u.2 := by rw [hw]; rfl
  refine ⟨w, ?_, ⟨(w1 _ _ (by decide)).trans u2.1, fun z hz k => ⟨(w1 _ _ (by decide)).trans (u2.2.1 z hz k).1, fun l hl => (w1 _ _ (by decide)).trans ((u2.2.1 z hz k).2 l hl)⟩, fun l hl => (w1 _ _ (by decide)).trans (u2.2.2.2.1 l hl), by rw [w2]; exact u2.2.2.2.2⟩, fun l hl => ?_, fun d i h => by rw [w1 d i (by omega), u3 d i h, bo d i h], fun d i h => by rw [w2, u4 d i h, b2 d i h]⟩
  · unfold gm_10
    rw [if_pos (by decide +kernel), t1, Option.bind_some, v1, Option.bind_some, ← hb, u1, hw]
  · rw [hw, gcp_1, if_pos ⟨rfl, by omega, by omega⟩, u3 4 _ (by omega), bo 4 _ (by omega)]
    have := m.2.2.2.2.2.2.1 (4 * g + l) (by omega)
    rw [show (1 : Nat) + 3 = 4 from rfl] at this
    rw [show 4 * g + (l - 0) = 4 * g + l by omega, this, Nat.add_assoc]
/-- whether weights can be fitted -/
theorem sp_121 {s : gx_S} {f : Nat → Int} {R C : Nat} {x : Int} (m : MR s 1 f R C) (M : MP f R C) (hx : i32 x) : (¬ ((0 ≤ x ∧ x < 3) ∧ f 2 = 7) → gm_121 x s = some (false, s)) ∧ ∀ g : Nat, x = g → g < 3 → f 2 = 7 → ∃ u : gx_S, gm_121 x s = some (decide (0 < CP f R C g), u) ∧ FS u (CL f R C) (Cc f g) (CP f R C g) ∧ (∀ l, l < 4 → u.1 63 l = f (32 + 4 * g + l)) ∧ (∀ a i, ¬ (62 ≤ a ∧ a ≤ 66) → u.1 a i = s.1 a i) ∧ ∀ a i, a ≠ 62 → u.2 a i = s.2 a i := by
  have e6 : s.1 1 6 = f 2 := m.2.2.1
  have c57 := sp_57 (s := s) (a := 1) (by decide +kernel) (by rw [e6]; exact M.2.1)
  rw [e6] at c57
  constructor
  · intro h
    unfold gm_121
    rw [sp_114 s hx, Option.bind_some]
    by_cases a : 0 ≤ x ∧ x < 3
    · rw [if_neg (fun q => (gbD s).mp q a)]
      show ((gm_57 1 s).bind _) = _
      rw [c57, Option.bind_some, if_neg (fun q => q ((gbD s).mpr fun b => h ⟨a, b⟩))]
    · rw [if_pos ((gbD s).mpr a)]
  · intro g e hg h7
    obtain ⟨u, u1, u2, u3, u4, u5⟩ := sp_10 m M h7 hg
    have B := CL_XB M hg
    refine ⟨u, ?_, u2, u3, u4, u5⟩
    unfold gm_121
    rw [sp_114 s hx, Option.bind_some, if_neg (fun q => (gbD s).mp q (by omega))]
    show ((gm_57 1 s).bind _) = _
    rw [c57, Option.bind_some, if_pos (fun q => (gbD s).mp q h7), e]
    show ((gm_10 1 g s).bind _) = _
    rw [u1, Option.bind_some, u2.2.2.2, if_pos (by have := B.2.2; omega)]
    by_cases z : CP f R C g ≤ 0
    · rw [if_pos z, decide_eq_false (by omega)]
    · rw [if_neg z, decide_eq_true (by omega)]
end
section
/-! FIT: the reference lays cells by zone and land, weighs, finds the misfit -/
theorem sl_205_121 {g : Nat} (hg : g < 3) : ∀ (n j : Nat) (t : gx_S), 4 < n + j → j ≤ 4 → ∃ u : gx_S, gm_205_121 n g j t = some u ∧ u.2 = t.2 ∧ (∀ a i, a ≠ 243 → u.1 a i = t.1 a i) ∧ ∀ i, u.1 243 i = if j ≤ i ∧ i < 4 then t.1 216 (32 + 4 * g + i) else t.1 243 i := by
  intro n
  induction n with
  | zero => intro j t h; omega
  | succ n ih =>
    intro j t h hj
    rw [gm_205_121, if_pos (by omega)]
    by_cases q : j = 4
    · rw [if_pos (by omega)]
      exact ⟨t, rfl, rfl, fun _ _ _ => rfl, fun i => by rw [if_neg (by omega)]⟩
    · have ce : ((j : Int) + 1) = ((j + 1 : Nat) : Int) := rfl
      have i1 : ((j : Int)).toNat = j := by omega
      have i2 : ((32 + (4 * (g : Int))) + (j : Int)).toNat = 32 + 4 * g + j := by omega
      rw [if_neg (by omega), if_pos (by omega), if_pos (by omega), i1, i2, ce]
      obtain ⟨u, u1, u2, u3, u4⟩ := ih (j + 1) (gw1 t 243 j (t.1 216 (32 + 4 * g + j))) (by omega) (by omega)
      refine ⟨u, u1, u2, fun a i h => by rw [u3 a i h, gw1_1, if_neg (fun x => h x.1)], fun i => ?_⟩
      rw [u4, gw1_1 t 243 j _ 216, if_neg (show ¬ ((216 : Nat) = 243 ∧ 32 + 4 * g + i = j) by omega), gw1_1]
      by_cases z : i = j
      · rw [if_neg (show ¬ (j + 1 ≤ i ∧ i < 4) by omega), if_pos (show (243 : Nat) = 243 ∧ i = j from ⟨rfl, z⟩), if_pos (show j ≤ i ∧ i < 4 by omega), z]
      · rw [if_neg (show ¬ ((243 : Nat) = 243 ∧ i = j) from fun x => z x.2)]
        by_cases y : j + 1 ≤ i ∧ i < 4
        · rw [if_pos y, if_pos (show j ≤ i ∧ i < 4 by omega)]
        · rw [if_neg y, if_neg (show ¬ (j ≤ i ∧ i < 4) by omega)]
theorem sl_205_79 {f : Nat → Int} {R C g : Nat} (M : MP f R C) (hg : g < 3) : ∀ (n j : Nat) (t : gx_S), 8 < n + j → j ≤ 8 → t.1 216 = f → t.1 215 42 = sg (L0 f R C g) j → ∃ u : gx_S, gm_205_79 n g j t = gm_205_121 100000 g 0 u ∧ u.2 = t.2 ∧ (∀ a i, ¬ (a = 215 ∧ i = 42) → u.1 a i = t.1 a i) ∧ u.1 215 42 = CP f R C g := by
  intro n
  induction n with
  | zero => intro j t h; omega
  | succ n ih =>
    intro j t h hj ef e42
    rw [gm_205_79, if_pos (by omega)]
    by_cases q : j = 8
    · rw [if_pos (by omega)]
      rw [q] at e42
      exact ⟨t, rfl, rfl, fun _ _ _ => rfl, e42⟩
    · have ce : ((j : Int) + 1) = ((j + 1 : Nat) : Int) := rfl
      have M' : MP (t.1 216) R C := by rw [ef]; exact M
      have c53 := sp_153g M' 0 j (by omega) (by omega)
      have c53 : gm_153 0 j t = _ := c53
      rw [ef] at c53
      have nx : ∀ x : Int, x = L0 f R C g j → ∃ u : gx_S, gm_205_79 n g ((j + 1 : Nat) : Int) (gw1 t 215 42 (t.1 215 42 + x)) = gm_205_121 100000 g 0 u ∧ u.2 = t.2 ∧ (∀ a i, ¬ (a = 215 ∧ i = 42) → u.1 a i = t.1 a i) ∧ u.1 215 42 = CP f R C g := fun x hx => by
        obtain ⟨u, u1, u2, u3, u4⟩ := ih (j + 1) (gw1 t 215 42 (t.1 215 42 + x)) (by omega) (by omega) (by funext i; rw [gw1_1, if_neg (by omega), ef]) (by rw [gw1_1, if_pos ⟨rfl, rfl⟩, e42, hx]; rfl)
        exact ⟨u, u1, u2, fun a i h => by rw [u3 a i h, gw1_1, if_neg h], u4⟩
      rw [if_neg (by omega), c53, Option.bind_some]
      by_cases y : 0 < NC f R C 0 j
      · rw [if_neg (fun q => (gbD t).mp q y)]
        show ∃ u : gx_S, ((gm_155 g j t).bind _) = _ ∧ _
        rw [sp_155 g j hg (by omega), Option.bind_some]
        unfold gm_205_109
        rw [ce, ef]
        exact nx _ (by unfold L0; rw [if_pos y])
      · rw [if_pos ((gbD t).mpr y)]
        unfold gm_205_109
        rw [ce]
        exact nx 0 (by unfold L0; rw [if_neg y])
theorem sl_205_23 {f : Nat → Int} {R C g : Nat} (M : MP f R C) (h7 : f 2 = 7) : ∀ (n k : Nat) (t : gx_S), R * C < n + k → k ≤ R * C → t.1 216 = f → (∀ z l, z < 8 → l < 4 → t.1 242 (4 * z + l) = CLn f C z l k) → ∃ u : gx_S, gm_205_23 n g k t = gm_205_79 100000 g 0 (gw1 u 215 42 0) ∧ u.2 = t.2 ∧ (∀ a i, a ≠ 242 → u.1 a i = t.1 a i) ∧ ∀ z l, z < 8 → l < 4 → u.1 242 (4 * z + l) = CL f R C z l := by
  intro n
  induction n with
  | zero => intro k t h; omega
  | succ n ih =>
    intro k t h hk ef e42
    have hRC := RC_96 M.1.2.2.1 M.1.2.2.2
    have M' : MP (t.1 216) R C := by rw [ef]; exact M
    have hm : t.1 216 0 * t.1 216 1 = ((R * C : Nat) : Int) := by rw [ef, M.1.1, M.1.2.1]; simp
    rw [gm_205_23, sp_151, hm, Option.bind_some]
    dsimp only
    rw [if_pos (by omega), if_pos (by omega)]
    by_cases q : k = R * C
    · rw [if_pos (by omega)]
      rw [q] at e42
      exact ⟨t, rfl, rfl, fun _ _ _ => rfl, e42⟩
    · have hkk : k < R * C := by omega
      have cs := co_s M h7 hkk
      have ce : ((k : Int) + 1) = ((k + 1 : Nat) : Int) := rfl
      have c0 := sp_152 (s := t) (R := R) (C := C) (MP_mz M') 0 k (by omega) hkk
      have c0 : gm_152 0 k t = some (t.1 216 (52 + 96 * 0 + 12 * (k / C) + k % C), t) := c0
      rw [ef, cs.1.1] at c0
      have c2 := sp_152 (s := t) (R := R) (C := C) (MP_mz M') 2 k (by omega) hkk
      have c2 : gm_152 2 k t = some (t.1 216 (52 + 96 * 2 + 12 * (k / C) + k % C), t) := c2
      rw [ef, cs.2.2.1] at c2
      have st : ∀ z l, CLn f C z l (k + 1) = CLn f C z l k + bi (co f C 0 k = z ∧ co f C 2 k = l) := fun z l => rfl
      rw [if_neg (by omega), c0, Option.bind_some]
      dsimp only
      rw [if_pos (by omega)]
      by_cases y : co f C 0 k = 8
      · rw [if_pos (by omega)]
        unfold gm_205_66
        rw [ce]
        refine ih (k + 1) t (by omega) (by omega) ef fun z l hz hl => ?_
        rw [st, e42 z l hz hl]
        unfold bi
        rw [if_neg (by omega), Int.add_zero]
      · have i1 : ((4 * (co f C 0 k : Int)) + (co f C 2 k : Int)).toNat = 4 * co f C 0 k + co f C 2 k := by omega
        rw [if_neg (by omega), c0, Option.bind_some]
        dsimp only
        rw [c2, Option.bind_some]
        dsimp only
        rw [if_pos (by omega), i1]
        unfold gm_205_66
        rw [ce]
        obtain ⟨v, hv⟩ : ∃ v, v = gw1 t 242 (4 * co f C 0 k + co f C 2 k) (t.1 242 (4 * co f C 0 k + co f C 2 k) + 1) := ⟨_, rfl⟩
        have vo : ∀ a i, a ≠ 242 → v.1 a i = t.1 a i := fun a i h => by rw [hv, gw1_1, if_neg (fun x => h x.1)]
        rw [← hv]
        obtain ⟨u, u1, u2, u3, u4⟩ := ih (k + 1) v (by omega) (by omega) (by funext i; rw [vo _ _ (by decide), ef]) fun z l hz hl => by
          rw [st, hv, gw1_1]
          unfold bi
          by_cases p : co f C 0 k = z ∧ co f C 2 k = l
          · rw [if_pos p, if_pos (by omega), ← e42 z l hz hl, p.1, p.2]
          · rw [if_neg p, if_neg (by omega), Int.add_zero]
            exact e42 z l hz hl
        exact ⟨u, u1, by rw [u2, hv]; rfl, fun a i h => (u3 a i h).trans (vo a i h), u4⟩
theorem sl_205_2 {g : Nat} : ∀ (n j : Nat) (t : gx_S), 32 < n + j → j ≤ 32 → ∃ u : gx_S, gm_205_2 n g j t = gm_205_23 100000 g 0 u ∧ u.2 = t.2 ∧ (∀ a i, a ≠ 242 → u.1 a i = t.1 a i) ∧ ∀ i, u.1 242 i = if j ≤ i ∧ i < 32 then 0 else t.1 242 i := by
  intro n
  induction n with
  | zero => intro j t h; omega
  | succ n ih =>
    intro j t h hj
    rw [gm_205_2, if_pos (by omega)]
    by_cases q : j = 32
    · rw [if_pos (by omega)]
      exact ⟨t, rfl, rfl, fun _ _ _ => rfl, fun i => by rw [if_neg (by omega)]⟩
    · have ce : ((j : Int) + 1) = ((j + 1 : Nat) : Int) := rfl
      have i1 : ((j : Int)).toNat = j := by omega
      rw [if_neg (by omega), if_pos (by omega), i1, ce]
      obtain ⟨u, u1, u2, u3, u4⟩ := ih (j + 1) (gw1 t 242 j 0) (by omega) (by omega)
      refine ⟨u, u1, u2, fun a i h => by rw [u3 a i h, gw1_1, if_neg (fun x => h x.1)], fun i => ?_⟩
      rw [u4, gw1_1]
      by_cases z : i = j
      · rw [if_neg (show ¬ (j + 1 ≤ i ∧ i < 32) by omega), if_pos (show (242 : Nat) = 242 ∧ i = j from ⟨rfl, z⟩), if_pos (show j ≤ i ∧ i < 32 by omega)]
      · rw [if_neg (show ¬ ((242 : Nat) = 242 ∧ i = j) from fun x => z x.2)]
        by_cases y : j + 1 ≤ i ∧ i < 32
        · rw [if_pos y, if_pos (show j ≤ i ∧ i < 32 by omega)]
        · rw [if_neg y, if_neg (show ¬ (j ≤ i ∧ i < 32) by omega)]
/-- cells by zone and land, the weights that are tried -/
def RSw (t : gx_S) (X : Nat → Nat → Int) (w : Nat → Int) : Prop := (∀ z l, z < 8 → l < 4 → t.1 242 (4 * z + l) = X z l) ∧ ∀ l, l < 4 → t.1 243 l = w l
theorem sp_205 {s : gx_S} {f : Nat → Int} {R C g : Nat} (ef : s.1 216 = f) (M : MP f R C) (h7 : f 2 = 7) (hg : g < 3) : ∃ u : gx_S, gm_205 g s = some u ∧ RSw u (CL f R C) (fun l => f (32 + 4 * g + l)) ∧ u.1 215 42 = CP f R C g ∧ u.2 = s.2 ∧ ∀ a i, a ≠ 242 → a ≠ 243 → ¬ (a = 215 ∧ i = 42) → u.1 a i = s.1 a i := by
  have hRC := RC_96 M.1.2.2.1 M.1.2.2.2
  obtain ⟨a, a1, a2, a3, a4⟩ := sl_205_2 (g := g) 100000 0 s (by omega) (by omega)
  have a1 : gm_205_2 100000 g 0 s = _ := a1
  have fa : a.1 216 = f := by funext i; rw [a3 _ _ (by decide), ef]
  obtain ⟨b, b1, b2, b3, b4⟩ := sl_205_23 (g := g) M h7 100000 0 a (by omega) (by omega) fa fun z l hz hl => by rw [a4, if_pos (by omega)]; rfl
  have b1 : gm_205_23 100000 g 0 a = _ := b1
  have fb : b.1 216 = f := by funext i; rw [b3 _ _ (by decide), fa]
  obtain ⟨d, d1, d2, d3, d4⟩ := sl_205_79 (g := g) M hg 100000 0 (gw1 b 215 42 0) (by omega) (by omega) (by funext i; rw [gw1_1, if_neg (by omega), fb]) (by rw [gw1_1, if_pos ⟨rfl, rfl⟩]; rfl)
  have d1 : gm_205_79 100000 g 0 (gw1 b 215 42 0) = _ := d1
  have fd : ∀ q i, ¬ (q = 215 ∧ i = 42) → d.1 q i = b.1 q i := fun q i h => by rw [d3 q i h, gw1_1, if_neg h]
  obtain ⟨u, u1, u2, u3, u4⟩ := sl_205_121 hg 100000 0 d (by omega) (by omega)
  have u1 : gm_205_121 100000 g 0 d = _ := u1
  refine ⟨u, ?_, ⟨fun z l hz hl => ?_, fun l hl => ?_⟩, by rw [u3 _ _ (by decide), d4], by rw [u2, d2, gw1_2, b2, a2], fun q i h1 h2 h3 => by rw [u3 q i h2, fd q i h3, b3 q i h1, a3 q i h1]⟩
  · unfold gm_205
    rw [a1, b1, d1, u1]
  · rw [u3 _ _ (by decide), fd _ _ (by omega), b4 z l hz hl]
  · rw [u4, if_pos (by omega), fd _ _ (by omega), fb]
theorem sp_206 {t : gx_S} {X : Nat → Nat → Int} {w : Nat → Int} (S : RSw t X w) {z : Nat} (hz : z < 8) : gm_206 z t = some (SZ X w z, t) := by
  have e : ∀ (n j : Nat), 4 < n + j → j ≤ 4 → gm_206_4 n z (sg (fun l => w l * X z l) j) j t = some (SZ X w z, t) := by
    intro n
    induction n with
    | zero => intro j h; omega
    | succ n ih =>
      intro j h hj
      rw [gm_206_4, if_pos (by omega)]
      by_cases q : j = 4
      · rw [if_pos (by omega), q]
        rfl
      · have ce : ((j : Int) + 1) = ((j + 1 : Nat) : Int) := rfl
        have i1 : ((j : Int)).toNat = j := by omega
        have i2 : ((4 * (z : Int)) + (j : Int)).toNat = 4 * z + j := by omega
        rw [if_neg (by omega), if_pos (by omega), if_pos (by omega), i1, i2, S.1 z j hz (by omega), S.2 j (by omega), ce]
        exact ih (j + 1) (by omega) (by omega)
  exact e 100000 0 (by omega) (by omega)
theorem sp_207 {t : gx_S} {X : Nat → Nat → Int} (S : ∀ z l, z < 8 → l < 4 → t.1 242 (4 * z + l) = X z l) {l : Nat} (hl : l < 4) : gm_207 l t = some (LC X l, t) := by
  have e : ∀ (n j : Nat), 8 < n + j → j ≤ 8 → gm_207_4 n l (sg (fun z => X z l) j) j t = some (LC X l, t) := by
    intro n
    induction n with
    | zero => intro j h; omega
    | succ n ih =>
      intro j h hj
      rw [gm_207_4, if_pos (by omega)]
      by_cases q : j = 8
      · rw [if_pos (by omega), q]
        rfl
      · have ce : ((j : Int) + 1) = ((j + 1 : Nat) : Int) := rfl
        have i2 : ((4 * (j : Int)) + (l : Int)).toNat = 4 * j + l := by omega
        rw [if_neg (by omega), if_pos (by omega), i2, S j l (by omega) hl, ce]
        exact ih (j + 1) (by omega) (by omega)
  exact e 100000 0 (by omega) (by omega)
theorem sp_208 {t : gx_S} {X : Nat → Nat → Int} {c : Nat → Int} {P : Int} (B : XB X c P) (S : ∀ z l, z < 8 → l < 4 → t.1 242 (4 * z + l) = X z l) {z : Nat} (hz : z < 8) : gm_208 z t = some (decide (KZ X z), t) := by
  have bd := sg_bd (f := fun l => X z l) (n := 4) fun l hl => B.1 z l hz hl
  have e : ∀ (n j : Nat), 4 < n + j → j ≤ 4 → gm_208_4 n z (sg (fun l => X z l) j) j t = some (decide (KZ X z), t) := by
    intro n
    induction n with
    | zero => intro j h; omega
    | succ n ih =>
      intro j h hj
      rw [gm_208_4, if_pos (by omega)]
      by_cases q : j = 4
      · rw [if_pos (by omega), q, if_pos (by omega)]
        by_cases y : sg (fun l => X z l) 4 ≤ 0
        · rw [if_pos y, decide_eq_false (show ¬ KZ X z from fun h : 0 < sg (fun l => X z l) 4 => by omega)]
        · rw [if_neg y, decide_eq_true (show KZ X z from (by omega : 0 < sg (fun l => X z l) 4))]
      · have ce : ((j : Int) + 1) = ((j + 1 : Nat) : Int) := rfl
        have i2 : ((4 * (z : Int)) + (j : Int)).toNat = 4 * z + j := by omega
        rw [if_neg (by omega), if_pos (by omega), i2, S z j hz (by omega), ce]
        exact ih (j + 1) (by omega) (by omega)
  exact e 100000 0 (by omega) (by omega)
theorem SA_sum (X : Nat → Nat → Int) (w : Nat → Int) : sg (fun z => SZ X w z) 8 = SA X w := by
  refine (sg_swap (fun z l => w l * X z l) 4 8).trans (sg_eq fun l hl => ?_)
  exact sg_mul (w l) (fun z => X z l) 8
theorem sl_209_41 {X : Nat → Nat → Int} {c : Nat → Int} {P : Int} {w : Nat → Int} {g : Nat} (hg : g < 3) (B : XB X c P) (W : wB9 w) : ∀ (n j : Nat) (t : gx_S), 8 < n + j → j ≤ 8 → RSw t X w → t.1 215 42 = P → (∀ z, z < 8 → t.1 216 (5 + 9 * g + z) = c z) → t.2 215 40 = sg (fun z => if KZ X z then ab (c z * SA X w - P * SZ X w z) else 0) j → ∃ u : gx_S, gm_209_41 n g (SA X w) j t = some (decide (0 < SA X w), u) ∧ u.1 = t.1 ∧ u.2 215 40 = MS X c P w ∧ ∀ a i, ¬ (a = 215 ∧ i = 40) → u.2 a i = t.2 a i := by
  have sr := SA_r B W
  intro n
  induction n with
  | zero => intro j t h; omega
  | succ n ih =>
    intro j t h hj S e42 ec e40
    rw [gm_209_41, if_pos (by omega)]
    by_cases q : j = 8
    · rw [if_pos (by omega), if_pos (by omega)]
      rw [q] at e40
      refine ⟨t, ?_, rfl, e40, fun _ _ _ => rfl⟩
      by_cases y : SA X w ≤ 0
      · rw [if_pos y, decide_eq_false (by omega)]
      · rw [if_neg y, decide_eq_true (by omega)]
    · have ce : ((j : Int) + 1) = ((j + 1 : Nat) : Int) := rfl
      rw [if_neg (by omega), sp_208 B S.1 (show j < 8 by omega), Option.bind_some]
      by_cases y : KZ X j
      · rw [if_neg (fun q => (gbD t).mp q y)]
        show ∃ u : gx_S, ((gm_155 g j t).bind _) = _ ∧ _
        have cr := B.2.1 j (by omega)
        have zr := SZ_r B W (show j < 8 by omega)
        have dr := df_r B W (show j < 8 by omega)
        have pr := B.2.2
        rw [sp_155 g j hg (by omega), ec j (by omega), Option.bind_some]
        dsimp only
        rw [if_pos (by omega), e42, if_pos (by omega), sp_206 S (by omega), Option.bind_some]
        dsimp only
        rw [if_pos (by omega), if_pos (by omega)]
        unfold gm_209_93
        rw [ce]
        obtain ⟨u, u1, u2, u3, u4⟩ := ih (j + 1) (gw2 t 215 40 (t.2 215 40 + ab (c j * SA X w - P * SZ X w j))) (by omega) (by omega) S e42 ec (by
          rw [gw2_2, if_pos ⟨rfl, rfl⟩, e40]
          show _ = _ + (if KZ X j then ab (c j * SA X w - P * SZ X w j) else 0)
          rw [if_pos y])
        exact ⟨u, u1, u2, u3, fun a i h => by rw [u4 a i h, gw2_2, if_neg h]⟩
      · rw [if_pos ((gbD t).mpr y)]
        unfold gm_209_93
        rw [ce]
        exact ih (j + 1) t (by omega) (by omega) S e42 ec (by
          rw [e40]
          show _ = _ + (if KZ X j then ab (c j * SA X w - P * SZ X w j) else 0)
          rw [if_neg y, Int.add_zero])
theorem sp_209 {t : gx_S} {X : Nat → Nat → Int} {c : Nat → Int} {P : Int} {w : Nat → Int} {g : Nat} (hg : g < 3) (B : XB X c P) (W : wB9 w) (S : RSw t X w) (e42 : t.1 215 42 = P) (ec : ∀ z, z < 8 → t.1 216 (5 + 9 * g + z) = c z) : ∃ u : gx_S, gm_209 g t = some (decide (0 < SA X w), u) ∧ u.1 = t.1 ∧ u.2 215 40 = MS X c P w ∧ u.2 215 41 = SA X w ∧ ∀ a i, ¬ (a = 215 ∧ (i = 40 ∨ i = 41)) → u.2 a i = t.2 a i := by
  have e : ∀ (n j : Nat), 8 < n + j → j ≤ 8 → gm_209_5 n g (sg (fun z => SZ X w z) j) j t = gm_209_41 100000 g (SA X w) 0 (gw2 (gw2 t 215 40 0) 215 41 (SA X w)) := by
    intro n
    induction n with
    | zero => intro j h; omega
    | succ n ih =>
      intro j h hj
      rw [gm_209_5, if_pos (by omega)]
      by_cases q : j = 8
      · rw [if_pos (by omega), q, SA_sum]
      · have ce : ((j : Int) + 1) = ((j + 1 : Nat) : Int) := rfl
        have zr := SZ_r B W (show j < 8 by omega)
        rw [if_neg (by omega), sp_206 S (by omega), Option.bind_some]
        dsimp only
        rw [if_pos (by omega), ce]
        exact ih (j + 1) (by omega) (by omega)
  have e0 := e 100000 0 (by omega) (by omega)
  have e0 : gm_209_5 100000 g 0 0 t = _ := e0
  obtain ⟨u, u1, u2, u3, u4⟩ := sl_209_41 hg B W 100000 0 (gw2 (gw2 t 215 40 0) 215 41 (SA X w)) (by omega) (by omega) S e42 ec (by rw [gw2_2, if_neg (by omega), gw2_2, if_pos ⟨rfl, rfl⟩]; rfl)
  have u1 : gm_209_41 100000 g (SA X w) 0 (gw2 (gw2 t 215 40 0) 215 41 (SA X w)) = _ := u1
  refine ⟨u, ?_, u2, u3, by rw [u4 _ _ (by omega), gw2_2, if_pos ⟨rfl, rfl⟩], fun a i h => by rw [u4 a i (by omega), gw2_2, if_neg (by omega), gw2_2, if_neg (by omega)]⟩
  unfold gm_209
  rw [e0, u1]
end
section
/-! QUERIES: misfit -/
theorem KRw_of4 {s u : gx_S} (h1 : ∀ k j, k ≠ 242 → k ≠ 243 → k ≠ 244 → ¬ (k = 215 ∧ 42 ≤ j) → u.1 k j = s.1 k j) (h2 : ∀ k j, k ≠ 215 → u.2 k j = s.2 k j) : KRw s u := ⟨fun k j q => h1 k j (by omega) (by omega) (by omega) (by omega), fun k j q => h2 k j (by omega), fun S => ⟨fun j hj => by rw [h1 232 j (by omega) (by omega) (by omega) (by omega), h1 233 j (by omega) (by omega) (by omega) (by omega), h1 234 j (by omega) (by omega) (by omega) (by omega), h2 225 j (by omega)]; exact S.1 j hj, fun c hc => by rw [h1 235 c (by omega) (by omega) (by omega) (by omega), h2 229 c (by omega), h2 230 c (by omega), h2 227 c (by omega), h2 228 c (by omega)]; exact S.2.1 c hc, fun k hk => by rw [h2 231 k (by omega)]; exact S.2.2 k hk⟩⟩
/-- the weights as they are -/
def W0 (f : Nat → Int) (g l : Nat) : Int := f (32 + 4 * g + l)
theorem W0_b {f : Nat → Int} {R C g : Nat} (M : MP f R C) (hg : g < 3) : wB9 (W0 f g) := fun l hl => by
  have := M.2.2.2.2.2.1 (4 * g + l) (by omega)
  unfold W0
  rw [Nat.add_assoc]
  exact this
theorem KC_fit {s u : gx_S} (h1 : ∀ a i, ¬ (62 ≤ a ∧ a ≤ 68) → u.1 a i = s.1 a i) (h2 : ∀ a i, a ≠ 62 → u.2 a i = s.2 a i) : KC s u := ⟨fun k j q => h1 k j (by omega), fun k j q => h2 k j (by omega)⟩
theorem CV_fit {s u : gx_S} {f : Nat → Int} {R C n L : Nat} {pf : Nat → Nat → Int} {tb : Nat → Int} (h1 : ∀ a i, ¬ (62 ≤ a ∧ a ≤ 68) → u.1 a i = s.1 a i) (c : CV s f R C n pf L tb) : CV u f R C n pf L tb := CV_o (fun k j q => h1 k j (by omega)) c
theorem inv_misfit {s : gx_S} (h : INV s) {x y : Int} (hx : i32 x) (hy : i32 y) : two s (gm_102 x y) (gm_210 x y) := by
  obtain ⟨f, R, C, n, pf, L, tb, c, r, v⟩ := id h
  have hx' := hx
  have hy' := hy
  unfold i32 at hx' hy'
  have c148 : ∀ t : gx_S, gm_148 x t = _ := fun t => sp_148 t hx
  have c150 : ∀ t : gx_S, t.1 216 = f → gm_150 t = some (decide (f 2 = 7), t) := fun t et => by
    have := sp_150 (s := t) (by rw [et]; exact v.1.2.1)
    rw [et] at this
    exact this
  obtain ⟨c21, c21'⟩ := sp_121 c.1 v.1 hx
  have s1 : gm_102 x y s = if 0 ≤ y ∧ y ≤ 1 then ((gm_121 x s).bind fun q19 => if ¬ (gb q19.1) = 0 then ((gm_12 4 (x * 4) q19.2).bind fun q22 => if (-9223372036854775808 ≤ q22.1 ∧ q22.1 ≤ 9223372036854775807) then (if ¬ q22.1 = 0 then ((gm_14 q22.2).bind fun q26 => (gm_127 q26.1 q22.1 y q26.2).bind fun q28 => some (q28.1, q28.2)) else some ((-1), q22.2)) else none) else gm_102_17 q19.2) else some (-1, s) := by
    unfold gm_102
    rw [if_pos hy']
    by_cases a : y < 0
    · rw [if_pos a, if_neg (show ¬ (0 ≤ y ∧ y ≤ 1) by omega)]
      rfl
    · rw [if_neg a]
      by_cases b : 1 < y
      · rw [if_pos b, if_neg (show ¬ (0 ≤ y ∧ y ≤ 1) by omega)]
        rfl
      · rw [if_neg b, if_pos (show 0 ≤ y ∧ y ≤ 1 by omega)]
  have s2 : ∀ t : gx_S, t.1 216 = f → gm_210 x y t = if ((0 ≤ x ∧ x < 3) ∧ f 2 = 7) ∧ 0 ≤ y ∧ y ≤ 1 then ((gm_205 x t).bind fun q31 => if (-2147483648 ≤ (q31.1 215 42) ∧ (q31.1 215 42) ≤ 2147483647) then (if (q31.1 215 42) = 0 then gm_210_48 q31 else ((gm_209 x q31).bind fun q35 => if ¬ (gb q35.1) = 0 then ((gm_194 (q35.2.2 215 40) (q35.2.2 215 41) y q35.2).bind fun q38 => some (q38.1, q38.2)) else gm_210_48 q35.2)) else none) else some (-1, t) := fun t et => by
    unfold gm_210
    rw [c150 t et, Option.bind_some]
    by_cases b : f 2 = 7
    · rw [if_neg (fun q => (gbD t).mp q b)]
      show ((gm_148 x t).bind _) = _
      rw [c148 t, Option.bind_some]
      by_cases a : 0 ≤ x ∧ x ≤ 2
      · rw [if_neg (fun q => (gbD t).mp q a), if_pos hy', in_ t hy (by omega) (by omega), Option.bind_some]
        by_cases d : 0 ≤ y ∧ y ≤ 1
        · rw [if_pos (fun q => (gbD t).mp q d), if_pos (show ((0 ≤ x ∧ x < 3) ∧ f 2 = 7) ∧ 0 ≤ y ∧ y ≤ 1 from ⟨⟨by omega, b⟩, d⟩)]
        · rw [if_neg (fun q => q ((gbD t).mpr d)), if_neg (fun q : ((0 ≤ x ∧ x < 3) ∧ f 2 = 7) ∧ 0 ≤ y ∧ y ≤ 1 => d q.2)]
          rfl
      · rw [if_pos ((gbD t).mpr a), if_neg (fun q : ((0 ≤ x ∧ x < 3) ∧ f 2 = 7) ∧ 0 ≤ y ∧ y ≤ 1 => a (by have := q.1.1; omega))]
        rfl
    · rw [if_pos ((gbD t).mpr b), if_neg (fun q : ((0 ≤ x ∧ x < 3) ∧ f 2 = 7) ∧ 0 ≤ y ∧ y ≤ 1 => b q.1.2)]
      rfl
  by_cases d : 0 ≤ y ∧ y ≤ 1
  · rw [if_pos d] at s1
    by_cases ok : (0 ≤ x ∧ x < 3) ∧ f 2 = 7
    · obtain ⟨a, h7⟩ := id ok
      obtain ⟨g, rfl⟩ : ∃ g : Nat, x = g := ⟨x.toNat, by omega⟩
      have hg : g < 3 := by omega
      have B := CL_XB v.1 hg
      have W := W0_b v.1 hg
      obtain ⟨u, u1, u2, u3, u4, u5⟩ := c21' g rfl hg h7
      rw [u1, Option.bind_some] at s1
      have ku : ∀ a i, ¬ (62 ≤ a ∧ a ≤ 68) → u.1 a i = s.1 a i := fun a i q => u4 a i (by omega)
      -- the reference on a state behind the class's
      have kr : ∀ w : gx_S, (∀ a i, ¬ (62 ≤ a ∧ a ≤ 68) → w.1 a i = s.1 a i) → (∀ a i, a ≠ 62 → w.2 a i = s.2 a i) → ∃ z : gx_S, KRw w z ∧ z.1 216 = f ∧ gm_210 g y w = (if CP f R C g = 0 then some (-1, z) else ((gm_209 g z).bind fun q35 => if ¬ (gb q35.1) = 0 then ((gm_194 (q35.2.2 215 40) (q35.2.2 215 41) y q35.2).bind fun q38 => some (q38.1, q38.2)) else gm_210_48 q35.2)) ∧ RSw z (CL f R C) (W0 f g) ∧ z.1 215 42 = CP f R C g := fun w w1 w2 => by
        have ew : w.1 216 = f := by funext i; rw [w1 _ _ (by omega), r.1]
        obtain ⟨z, z1, z2, z3, z4, z5⟩ := sp_205 ew v.1 h7 hg
        refine ⟨z, KRw_of4 (fun k j q1 q2 _ q3 => z5 k j q1 q2 (by omega)) (fun k j _ => by rw [z4]), by funext i; rw [z5 _ _ (by decide) (by decide) (by omega), ew], ?_, z2, z3⟩
        rw [s2 w ew, if_pos ⟨ok, d⟩, z1, Option.bind_some, z3, if_pos (by have := B.2.2; omega)]
        rfl
      by_cases p0 : 0 < CP f R C g
      · rw [if_pos (fun q => (gbD u).mp q p0)] at s1
        have i4 : (g : Int) * 4 = ((4 * g : Nat) : Int) := by omega
        obtain ⟨w, w1, w2, w3, w4⟩ := sp_12 (k := 4) (a := 4 * g) (m := 12) (w := W0 f g) u2 B (by decide +kernel) (by omega) (by decide) W fun l hl => by
          rw [u4 _ _ (by omega)]
          have := c.1.2.2.2.2.2.2.1 (4 * g + l) (by omega)
          rw [show (1 : Nat) + 3 = 4 from rfl] at this
          rw [this]
          unfold W0
          rw [Nat.add_assoc]
        have s1 : gm_102 g y s = ((gm_12 4 ((g : Int) * 4) u).bind fun q22 => if (-9223372036854775808 ≤ q22.1 ∧ q22.1 ≤ 9223372036854775807) then (if ¬ q22.1 = 0 then ((gm_14 q22.2).bind fun q26 => (gm_127 q26.1 q22.1 y q26.2).bind fun q28 => some (q28.1, q28.2)) else some ((-1), q22.2)) else none) := s1
        have sr := SA_r B W
        have mr := MS_r B W
        rw [i4, w1, Option.bind_some] at s1
        have kw1 : ∀ a i, ¬ (62 ≤ a ∧ a ≤ 68) → w.1 a i = s.1 a i := fun a i q => (w3 a i (by omega)).trans (ku a i q)
        have kw2 : ∀ a i, a ≠ 62 → w.2 a i = s.2 a i := fun a i q => (w4 a i (by omega)).trans (u5 a i q)
        obtain ⟨z, z1, z2, z3, z4, z5⟩ := kr w kw1 kw2
        obtain ⟨t, t1, t2, t3, t4, t5⟩ := sp_209 hg B W z4 z5 fun q hq => by rw [z2]; rfl
        rw [if_neg (by omega), t1, Option.bind_some] at z3
        dsimp only at s1
        rw [if_pos (by omega)] at s1
        have kt : KRw z t := KRw_of4 (fun k j _ _ _ _ => by rw [t2]) fun k j q => t5 k j (by omega)
        have fin : INV t := q_inv (KC_fit kw1 kw2) (CV_fit kw1 c) r v (KRw_tr z1 kt)
        by_cases s0 : SA (CL f R C) (W0 f g) = 0
        · rw [if_neg (fun q => q s0)] at s1
          rw [if_neg (fun q => q ((gbD t).mpr (by omega)))] at z3
          exact ⟨-1, w, t, s1, z3, fin⟩
        · have F' : FS w (CL f R C) (Cc f g) (CP f R C g) := FS_o (fun b i q => w3 b i (by omega)) (w4 _ _ (by omega)) u2
          rw [if_pos s0, sp_14 F' B W w2, Option.bind_some] at s1
          rw [if_pos (fun q => (gbD t).mp q (by omega))] at z3
          have z3 : gm_210 g y w = ((gm_194 (t.2 215 40) (t.2 215 41) y t).bind fun q38 => some (q38.1, q38.2)) := z3
          rw [t3, t4] at z3
          have s1 : gm_102 g y s = ((gm_127 (MS (CL f R C) (Cc f g) (CP f R C g) (W0 f g)) (SA (CL f R C) (W0 f g)) y w).bind fun q28 => some (q28.1, q28.2)) := s1
          obtain ⟨p, hp⟩ : ∃ p : Nat, MS (CL f R C) (Cc f g) (CP f R C g) (W0 f g) = p := ⟨_, (Int.toNat_of_nonneg mr.1).symm⟩
          obtain ⟨b, hb⟩ : ∃ b : Nat, SA (CL f R C) (W0 f g) = b := ⟨_, (Int.toNat_of_nonneg sr.1).symm⟩
          rw [hp, hb] at s1 z3
          rw [hp] at mr
          rw [hb] at sr s0
          rw [sp_127 w (by omega) (by omega) (by omega) hy, Option.bind_some] at s1
          rw [sp_194 t (by omega) (by omega) (by omega) hy, Option.bind_some] at z3
          exact ⟨_, w, t, s1, z3, fin⟩
      · have pn : CP f R C g = 0 := by have := B.2.2; omega
        rw [if_neg (fun q => q ((gbD u).mpr p0))] at s1
        obtain ⟨z, z1, z2, z3, z4, z5⟩ := kr u ku u5
        rw [if_pos pn] at z3
        exact ⟨-1, u, z, s1, z3, q_inv (KC_fit ku u5) (CV_fit ku c) r v z1⟩
    · rw [c21 ok, Option.bind_some, if_neg (fun q => q rfl)] at s1
      exact ⟨-1, s, s, s1, (s2 s r.1).trans (if_neg fun q => ok q.1), h⟩
  · rw [if_neg d] at s1
    exact ⟨-1, s, s, s1, (s2 s r.1).trans (if_neg fun q => d q.2), h⟩
end
section
/-! FIT: the rows of weights, one by one; the best of them -/
def bsz (X : Nat → Nat → Int) (l : Nat) : Nat := if 0 < LC X l then 10 else 1
def zq (X : Nat → Nat → Int) : Nat → Nat
  | 0 => 1
  | d + 1 => bsz X (3 - d) * zq X d
theorem bsz_r (X : Nat → Nat → Int) (l : Nat) : 1 ≤ bsz X l ∧ bsz X l ≤ 10 := by
  unfold bsz
  split <;> omega
theorem zq_r (X : Nat → Nat → Int) : ∀ d : Nat, 1 ≤ zq X d ∧ zq X d ≤ 10 ^ d := by
  intro d
  induction d with
  | zero => exact ⟨Nat.le_refl 1, Nat.le_refl 1⟩
  | succ d ih =>
    have b := bsz_r X (3 - d)
    refine ⟨Nat.mul_pos b.1 ih.1, ?_⟩
    show bsz X (3 - d) * zq X d ≤ 10 ^ (d + 1)
    rw [Nat.pow_succ, Nat.mul_comm (10 ^ d)]
    exact Nat.mul_le_mul b.2 ih.2
theorem zq_dvd (X : Nat → Nat → Int) {a : Nat} : ∀ {b : Nat}, a ≤ b → zq X a ∣ zq X b := by
  intro b
  induction b with
  | zero => intro h; rw [show a = 0 by omega]; exact Nat.dvd_refl _
  | succ b ih =>
    intro h
    by_cases e : a = b + 1
    · rw [e]; exact Nat.dvd_refl _
    · exact Nat.dvd_trans (ih (by omega)) ⟨bsz X (3 - b), Nat.mul_comm _ _⟩
/-- the row e: by what the lands' digits are -/
def RE (X : Nat → Nat → Int) (o : Nat → Int) (e l : Nat) : Int := if 0 < LC X l then ((e / zq X (3 - l) % 10 : Nat) : Int) else o l
theorem RE_B (X : Nat → Nat → Int) {o : Nat → Int} (ho : wB9 o) (e : Nat) : wB9 (RE X o e) := fun l hl => by
  unfold RE
  split
  · omega
  · exact ho l hl
theorem RE_z {X : Nat → Nat → Int} {o : Nat → Int} {l : Nat} (h : ¬ 0 < LC X l) (e : Nat) : RE X o e l = o l := if_neg h
theorem RE_0 {X : Nat → Nat → Int} {o : Nat → Int} {l : Nat} (h : 0 < LC X l) : RE X o 0 l = 0 := by
  unfold RE
  rw [if_pos h, Nat.zero_div]
  rfl
theorem sdv {e T : Nat} (hT : 0 < T) (h : ¬ T ∣ e + 1) : (e + 1) / T = e / T := by
  have a := Nat.div_add_mod e T
  have b := Nat.mod_lt e hT
  have c : e % T + 1 ≠ T := fun q => h ⟨e / T + 1, by rw [Nat.mul_add, Nat.mul_one]; omega⟩
  have d : e + 1 = T * (e / T) + (e % T + 1) := by omega
  have f : (T * (e / T) + (e % T + 1)) / T = e / T := by rw [Nat.mul_add_div hT, Nat.div_eq_of_lt (show e % T + 1 < T by omega), Nat.add_zero]
  rw [← d] at f
  exact f
theorem RE_up {X : Nat → Nat → Int} {o : Nat → Int} {e l : Nat} (hl : l < 4) (hL : 0 < LC X l) (hc : zq X (3 - l) ∣ e + 1) : (RE X o e l < 9 → RE X o (e + 1) l = RE X o e l + 1 ∧ ∀ j, j < l → RE X o (e + 1) j = RE X o e j) ∧ (¬ RE X o e l < 9 → RE X o (e + 1) l = 0 ∧ zq X (4 - l) ∣ e + 1) := by
  have hs := (zq_r X (3 - l)).1
  have e4 : zq X (4 - l) = 10 * zq X (3 - l) := by
    rw [show 4 - l = (3 - l) + 1 by omega]
    show bsz X (3 - (3 - l)) * _ = _
    rw [show 3 - (3 - l) = l by omega]
    unfold bsz
    rw [if_pos hL]
  obtain ⟨m, hm⟩ := hc
  have m0 : 0 < m := by
    rcases Nat.eq_zero_or_pos m with q | q
    · rw [q, Nat.mul_zero] at hm; omega
    · exact q
  obtain ⟨m, rfl⟩ : ∃ k, m = k + 1 := ⟨m - 1, by omega⟩
  have d1 : (e + 1) / zq X (3 - l) = m + 1 := by rw [hm, Nat.mul_div_cancel_left _ hs]
  have d0 : e / zq X (3 - l) = m := by
    have : e = zq X (3 - l) * m + (zq X (3 - l) - 1) := by
      rw [Nat.mul_add, Nat.mul_one] at hm
      omega
    rw [this, Nat.mul_add_div hs, Nat.div_eq_of_lt (by omega), Nat.add_zero]
  have r1 : RE X o (e + 1) l = (((m + 1) % 10 : Nat) : Int) := by
    unfold RE
    rw [if_pos hL, d1]
  have r0 : RE X o e l = ((m % 10 : Nat) : Int) := by
    unfold RE
    rw [if_pos hL, d0]
  rw [r1, r0]
  refine ⟨fun h => ⟨by omega, fun j hj => ?_⟩, fun h => ⟨by omega, ?_⟩⟩
  · unfold RE
    by_cases q : 0 < LC X j
    · rw [if_pos q, if_pos q]
      have t := zq_dvd X (show 4 - l ≤ 3 - j by omega)
      rw [sdv (zq_r X (3 - j)).1 fun y => ?_]
      obtain ⟨k, hk⟩ := Nat.dvd_trans t y
      rw [hm, e4, Nat.mul_comm 10, Nat.mul_assoc] at hk
      have := Nat.eq_of_mul_eq_mul_left hs hk
      omega
    · rw [if_neg q, if_neg q]
  · rw [e4, hm, Nat.mul_comm 10]
    exact Nat.mul_dvd_mul_left _ ⟨(m + 1) / 10, by omega⟩
theorem RE_pre {X : Nat → Nat → Int} {o : Nat → Int} {e r d j : Nat} (hd : zq X (d + 1) ∣ e) (hr : r < zq X (d + 1)) (hj : j < 3 - d) : RE X o (e + r) j = RE X o e j := by
  unfold RE
  by_cases q : 0 < LC X j
  · rw [if_pos q, if_pos q]
    obtain ⟨t, ht⟩ := zq_dvd X (show d + 1 ≤ 3 - j by omega)
    obtain ⟨k, hk⟩ := hd
    have hz := (zq_r X (d + 1)).1
    rw [ht, ← Nat.div_div_eq_div_mul, ← Nat.div_div_eq_div_mul, hk, Nat.mul_add_div hz, Nat.div_eq_of_lt hr, Nat.mul_div_cancel_left _ hz, Nat.add_zero]
  · rw [if_neg q, if_neg q]
theorem RE_dig {X : Nat → Nat → Int} {o : Nat → Int} {e w d : Nat} (hd : zq X (d + 1) ∣ e) (h3 : d ≤ 3) (hL : 0 < LC X (3 - d)) (hw : w < 10) : RE X o (e + w * zq X d) (3 - d) = (w : Int) := by
  have hz := (zq_r X d).1
  obtain ⟨k, hk⟩ := hd
  have e1 : zq X (d + 1) = 10 * zq X d := by
    show bsz X (3 - d) * _ = _
    unfold bsz
    rw [if_pos hL]
  unfold RE
  have e2 : e + w * zq X d = zq X d * (10 * k + w) := by
    rw [hk, e1, Nat.mul_add, Nat.mul_comm 10 (zq X d), Nat.mul_assoc, Nat.mul_comm w]
  rw [if_pos hL, show 3 - (3 - d) = d by omega, e2, Nat.mul_div_cancel_left _ hz]
  omega
/-- the best of the rows below e -/
def BI (X : Nat → Nat → Int) (c : Nat → Int) (P : Int) (o : Nat → Int) : Nat → Option Nat
  | 0 => none
  | e + 1 => match BI X c P o e with
    | none => if 0 < SA X (RE X o e) then some e else none
    | some i => if 0 < SA X (RE X o e) ∧ MS X c P (RE X o e) * SA X (RE X o i) < MS X c P (RE X o i) * SA X (RE X o e) then some e else some i
section
variable {X : Nat → Nat → Int} {c : Nat → Int} {P : Int} {o : Nat → Int}
theorem BI_n {e : Nat} (h : BI X c P o e = none) : BI X c P o (e + 1) = if 0 < SA X (RE X o e) then some e else none := by
  rw [BI, h]
theorem BI_s {e i : Nat} (h : BI X c P o e = some i) : BI X c P o (e + 1) = if 0 < SA X (RE X o e) ∧ MS X c P (RE X o e) * SA X (RE X o i) < MS X c P (RE X o i) * SA X (RE X o e) then some e else some i := by
  rw [BI, h]
theorem BI_p : ∀ e i : Nat, BI X c P o e = some i → i < e ∧ 0 < SA X (RE X o i) := by
  intro e
  induction e with
  | zero => intro i h; cases h
  | succ e ih =>
    intro i h
    cases q : BI X c P o e with
    | none =>
      rw [BI_n q] at h
      split at h
      · rename_i y
        cases h
        exact ⟨by omega, y⟩
      · cases h
    | some k =>
      obtain ⟨k1, k2⟩ := ih k q
      rw [BI_s q] at h
      split at h
      · rename_i y
        cases h
        exact ⟨by omega, y.1⟩
      · cases h
        exact ⟨by omega, k2⟩
theorem BI_0 {e : Nat} (h : ¬ 0 < SA X (RE X o e)) : BI X c P o (e + 1) = BI X c P o e := by
  cases q : BI X c P o e with
  | none => rw [BI_n q, if_neg h]
  | some i => rw [BI_s q, if_neg fun y => h y.1]
theorem BI_stop (B : XB X c P) (ho : wB9 o) {e i : Nat} (h : BI X c P o e = some i) (h0 : MS X c P (RE X o i) ≤ 0) : ∀ k : Nat, BI X c P o (e + k) = some i := by
  have z : MS X c P (RE X o i) = 0 := by have := (MS_r B (RE_B X ho i)).1; omega
  intro k
  induction k with
  | zero => exact h
  | succ k ih =>
    rw [show e + (k + 1) = (e + k) + 1 from rfl, BI_s ih, if_neg fun y => ?_]
    have y2 := y.2
    rw [z, Int.zero_mul] at y2
    have := (mul_r (MS_r B (RE_B X ho (e + k))) (SA_r B (RE_B X ho i))).1
    omega
theorem BI_up {e : Nat} (h : ¬ BI X c P o e = none) : ∀ k : Nat, ¬ BI X c P o (e + k) = none := by
  intro k
  induction k with
  | zero => exact h
  | succ k ih =>
    cases q : BI X c P o (e + k) with
    | none => exact absurd q ih
    | some i =>
      rw [show e + (k + 1) = (e + k) + 1 from rfl, BI_s q]
      split <;> exact fun y => by cases y
theorem BI_some (B : XB X c P) (ho : wB9 o) {l : Nat} (hl : l < 4) (hL : 0 < LC X l) : ∃ i, BI X c P o (zq X 4) = some i := by
  have hs := (zq_r X (3 - l)).1
  have e4 : zq X (4 - l) = 10 * zq X (3 - l) := by
    rw [show 4 - l = (3 - l) + 1 by omega]
    show bsz X (3 - (3 - l)) * _ = _
    rw [show 3 - (3 - l) = l by omega]
    unfold bsz
    rw [if_pos hL]
  have le := Nat.le_of_dvd (zq_r X 4).1 (zq_dvd X (show 4 - l ≤ 4 by omega))
  have r1 : RE X o (zq X (3 - l)) l = 1 := by
    unfold RE
    rw [if_pos hL, Nat.div_self hs]
    rfl
  have sp : 0 < SA X (RE X o (zq X (3 - l))) := sg_pos (i := l) (fun k hk => (mul_r (RE_B X ho (zq X (3 - l)) k hk) (LC_r B hk)).1) hl (by
    show 0 < RE X o (zq X (3 - l)) l * LC X l
    rw [r1, Int.one_mul]
    exact hL)
  have h1 : ¬ BI X c P o (zq X (3 - l) + 1) = none := by
    cases q : BI X c P o (zq X (3 - l)) with
    | none => rw [BI_n q, if_pos sp]; exact fun y => by cases y
    | some i => rw [BI_s q]; split <;> exact fun y => by cases y
  have h2 := BI_up h1 (zq X 4 - (zq X (3 - l) + 1))
  rw [show zq X (3 - l) + 1 + (zq X 4 - (zq X (3 - l) + 1)) = zq X 4 by omega] at h2
  cases q : BI X c P o (zq X 4) with
  | none => exact absurd q h2
  | some i => exact ⟨i, rfl⟩
end
end
section
/-! FIT: the class finds the best row -/
section
variable {X : Nat → Nat → Int} {c : Nat → Int} {P : Int} {o : Nat → Int}
theorem WS_c {s : gx_S} {w w' : Nat → Int} (h : ∀ l, l < 4 → w l = w' l) (W : WS s X w) : WS s X w' := by
  refine ⟨fun z hz k => (W.1 z hz k).trans ?_, W.2.trans ?_⟩
  · exact sg_eq fun l hl => by rw [h l hl]
  · exact sg_eq fun l hl => by rw [h l hl]
theorem WS_u {s u : gx_S} {w w' : Nat → Int} {m : Nat} {d : Int} (hm : m < 4) (W : WS s X w) (e1 : ∀ z, z < 8 → KZ X z → u.1 68 (rk X z) = s.1 68 (rk X z) + d * X z m) (e2 : u.2 62 8 = s.2 62 8 + d * LC X m) (h1 : w' m = w m + d) (h2 : ∀ j, j ≠ m → w' j = w j) : WS u X w' := by
  refine ⟨fun z hz k => ?_, ?_⟩
  · rw [e1 z hz k, W.1 z hz k]
    exact (sg_upd (f := fun l => w l * X z l) (g := fun l => w' l * X z l) (i := m) (x := d * X z m) (by show w' m * X z m = _; rw [h1, Int.add_mul]) (fun j hj => by show w' j * X z j = _; rw [h2 j hj]) hm).symm
  · rw [e2, W.2]
    exact (sg_upd (f := fun l => w l * LC X l) (g := fun l => w' l * LC X l) (i := m) (x := d * LC X m) (by show w' m * LC X m = _; rw [h1, Int.add_mul]) (fun j hj => by show w' j * LC X j = _; rw [h2 j hj]) hm).symm
/-- weighed by r, which is the row -/
def OD (s : gx_S) (X : Nat → Nat → Int) (c : Nat → Int) (P : Int) (r : Nat → Int) : Prop := FS s X c P ∧ WS s X r ∧ ∀ l, l < 4 → s.1 67 l = r l
theorem OD_c {s : gx_S} {w w' : Nat → Int} (h : ∀ l, l < 4 → w l = w' l) (D : OD s X c P w) : OD s X c P w' := ⟨D.1, WS_c h D.2.1, fun l hl => (D.2.2 l hl).trans (h l hl)⟩
def FQ (s u : gx_S) : Prop := (∀ a i, a ≠ 67 → a ≠ 68 → u.1 a i = s.1 a i) ∧ ∀ a i, ¬ (a = 62 ∧ i = 8) → u.2 a i = s.2 a i
theorem FQ_tr {s t u : gx_S} (x : FQ s t) (y : FQ t u) : FQ s u := ⟨fun a i h1 h2 => (y.1 a i h1 h2).trans (x.1 a i h1 h2), fun a i h => (y.2 a i h).trans (x.2 a i h)⟩
theorem FQ_rf (s : gx_S) : FQ s s := ⟨fun _ _ _ _ => rfl, fun _ _ _ => rfl⟩
/-- the next row -/
theorem sl_17 {e : Nat} (B : XB X c P) (ho : wB9 o) : ∀ (m n : Nat) (t : gx_S) (r : Nat → Int), m < n → m ≤ 4 → OD t X c P r → (∀ j, j < m → r j = RE X o e j) → (∀ j, m ≤ j → j < 4 → r j = RE X o (e + 1) j) → zq X (4 - m) ∣ e + 1 → ∃ u : gx_S, gm_17_2 n ((m : Int) - 1) t = some u ∧ OD u X c P (RE X o (e + 1)) ∧ FQ t u := by
  intro m
  induction m with
  | zero =>
    intro n t r hn _ D h1 h2 _
    obtain ⟨n, rfl⟩ : ∃ k, n = k + 1 := ⟨n - 1, by omega⟩
    rw [gm_17_2, if_pos (by omega), if_pos (by omega)]
    exact ⟨t, rfl, OD_c (fun l hl => h2 l (by omega) hl) D, FQ_rf t⟩
  | succ m ih =>
    intro n t r hn hm D h1 h2 hz
    obtain ⟨n, rfl⟩ : ∃ k, n = k + 1 := ⟨n - 1, by omega⟩
    have em : (((m + 1 : Nat) : Int) - 1) = (m : Int) := by omega
    have i1 : ((m : Int)).toNat = m := by omega
    have ce : ((m : Int) + (-1)) = (m : Int) - 1 := rfl
    have hz : zq X (3 - m) ∣ e + 1 := by rw [show 3 - m = 4 - (m + 1) by omega]; exact hz
    have lr := LC_r B (show m < 4 by omega)
    have rm := h1 m (by omega)
    have rb := RE_B X ho e m (by omega)
    have e66 := D.1.2.2.1 m (by omega)
    have e67 := D.2.2 m (by omega)
    rw [gm_17_2, em, if_pos (by omega), if_neg (by omega), if_pos (by omega), i1, e66, if_pos (by omega)]
    by_cases q : LC X m ≤ 0
    · rw [if_pos q]
      unfold gm_17_43 gm_17_71
      rw [if_pos (by omega), i1, e66, if_pos (by omega), if_pos q, ce]
      refine ih n t r (by omega) (by omega) D (fun j hj => h1 j (by omega)) (fun j h3 h4 => ?_) ?_
      · by_cases p : j = m
        · rw [p, rm, RE_z (by omega), RE_z (by omega)]
        · exact h2 j (by omega) h4
      · rw [show 4 - m = (3 - m) + 1 by omega]
        show bsz X (3 - (3 - m)) * zq X (3 - m) ∣ e + 1
        rw [show 3 - (3 - m) = m by omega]
        unfold bsz
        rw [if_neg (by omega), Nat.one_mul]
        exact hz
    · obtain ⟨up1, up2⟩ := RE_up (o := o) (show m < 4 by omega) (show 0 < LC X m by omega) hz
      rw [if_neg q, e67, rm, if_pos (by omega)]
      by_cases y : 9 ≤ RE X o e m
      · obtain ⟨z1, z2⟩ := up2 (by omega)
        rw [if_pos y]
        unfold gm_17_43 gm_17_71
        obtain ⟨v, v1, v2, v3, v4, v5⟩ := sp_13 (w := -RE X o e m) (l := m) D.1 B (by omega) (by omega)
        rw [if_pos (by omega), i1, e66, if_pos (by omega), if_neg q, e67, rm, v1, Option.bind_some, ce]
        obtain ⟨a, ha⟩ : ∃ a, a = gw1 v 67 m 0 := ⟨_, rfl⟩
        have a1 : ∀ b i, ¬ (b = 67 ∧ i = m) → a.1 b i = v.1 b i := fun b i h => by rw [ha, gw1_1, if_neg h]
        have a2 : a.1 67 m = 0 := by rw [ha, gw1_1, if_pos ⟨rfl, rfl⟩]
        have a3 : a.2 = v.2 := by rw [ha]; rfl
        have fa : FQ t a := ⟨fun b i h3 h4 => by rw [a1 b i (by omega), v2 b i h4], fun b i h3 => by rw [a3, v5 b i h3]⟩
        rw [← ha]
        have Da : OD a X c P (fun j => if j = m then 0 else r j) := by
          refine ⟨FS_o (fun b i h3 => fa.1 b i (by omega) (by omega)) (fa.2 _ _ (by omega)) D.1, WS_u (m := m) (d := -RE X o e m) (by omega) D.2.1 (fun z hz k => by rw [a1 _ _ (by omega)]; exact v3 z hz k) (by rw [a3]; exact v4) ?_ (fun j hj => if_neg hj), fun l hl => ?_⟩
          · show (if m = m then (0 : Int) else r m) = _
            rw [if_pos rfl, rm]
            omega
          · show _ = (if l = m then (0 : Int) else r l)
            by_cases p : l = m
            · rw [if_pos p, p]; exact a2
            · rw [if_neg p, a1 _ _ (fun x => p x.2), v2 _ _ (by decide)]
              exact D.2.2 l hl
        obtain ⟨u, u1, u2, u3⟩ := ih n a (fun j => if j = m then 0 else r j) (by omega) (by omega) Da (fun j hj => by
          show (if j = m then (0 : Int) else r j) = _
          rw [if_neg (by omega)]
          exact h1 j (by omega)) (fun j h3 h4 => by
          show (if j = m then (0 : Int) else r j) = _
          by_cases p : j = m
          · rw [if_pos p, p, z1]
          · rw [if_neg p]
            exact h2 j (by omega) h4) z2
        exact ⟨u, u1, u2, FQ_tr fa u3⟩
      · obtain ⟨z1, z2⟩ := up1 (by omega)
        rw [if_neg y]
        obtain ⟨a, ha⟩ : ∃ a, a = gw1 t 67 m (RE X o e m + 1) := ⟨_, rfl⟩
        have a1 : ∀ b i, ¬ (b = 67 ∧ i = m) → a.1 b i = t.1 b i := fun b i h => by rw [ha, gw1_1, if_neg h]
        have a2 : a.1 67 m = RE X o e m + 1 := by rw [ha, gw1_1, if_pos ⟨rfl, rfl⟩]
        have a3 : a.2 = t.2 := by rw [ha]; rfl
        have Fa : FS a X c P := FS_o (fun b i h3 => a1 b i (by omega)) (by rw [a3]) D.1
        obtain ⟨v, v1, v2, v3, v4, v5⟩ := sp_13 (w := 1) (l := m) Fa B (by omega) (by omega)
        rw [← ha, v1, Option.bind_some]
        refine ⟨v, rfl, OD_c (w := fun j => if j = m then RE X o e m + 1 else r j) (fun l hl => ?_) ⟨FS_o (fun b i h3 => v2 b i (by omega)) (v5 _ _ (by omega)) Fa, WS_u (m := m) (d := 1) (by omega) D.2.1 (fun z hz k => by rw [v3 z hz k, a1 _ _ (by omega)]) (by rw [v4, a3]) ?_ (fun j hj => if_neg hj), fun l hl => ?_⟩, ⟨fun b i h3 h4 => by rw [v2 b i h4, a1 b i (by omega)], fun b i h3 => by rw [v5 b i h3, a3]⟩⟩
        · show (if l = m then RE X o e m + 1 else r l) = _
          by_cases p : l = m
          · rw [if_pos p, p, z1]
          · rw [if_neg p]
            by_cases p2 : l < m
            · rw [h1 l (by omega), z2 l p2]
            · exact h2 l (by omega) hl
        · show (if m = m then RE X o e m + 1 else r m) = _
          rw [if_pos rfl, rm]
        · show _ = (if l = m then RE X o e m + 1 else r l)
          rw [v2 _ _ (by decide)]
          by_cases p : l = m
          · rw [if_pos p, p]; exact a2
          · rw [if_neg p, a1 _ _ (fun x => p x.2)]
            exact D.2.2 l hl
theorem sp_17 {e : Nat} {s : gx_S} (B : XB X c P) (ho : wB9 o) (D : OD s X c P (RE X o e)) : ∃ u : gx_S, gm_17 s = some u ∧ OD u X c P (RE X o (e + 1)) ∧ FQ s u := by
  obtain ⟨u, u1, u2, u3⟩ := sl_17 B ho 4 100000 s (RE X o e) (by omega) (by omega) D (fun _ _ => rfl) (fun j h1 h2 => absurd h2 (by omega)) ⟨e + 1, (Nat.one_mul _).symm⟩
  exact ⟨u, u1, u2, u3⟩
/-- the best so far -/
def CBf (s : gx_S) (X : Nat → Nat → Int) (c : Nat → Int) (P : Int) (o : Nat → Int) (e : Nat) : Prop := (BI X c P o e = none → s.2 62 10 = 0 ∧ s.2 62 9 = 1 ∧ ∀ l, l < 4 → s.1 63 l = o l) ∧ ∀ i, BI X c P o e = some i → s.2 62 10 = SA X (RE X o i) ∧ s.2 62 9 = MS X c P (RE X o i) ∧ ∀ l, l < 4 → s.1 63 l = RE X o i l
theorem CBf_FQ {s u : gx_S} {e : Nat} (h : FQ s u) (C : CBf s X c P o e) : CBf u X c P o e := by
  refine ⟨fun q => ?_, fun i q => ?_⟩
  · obtain ⟨a, b, d⟩ := C.1 q
    exact ⟨(h.2 _ _ (by omega)).trans a, (h.2 _ _ (by omega)).trans b, fun l hl => (h.1 _ _ (by omega) (by omega)).trans (d l hl)⟩
  · obtain ⟨a, b, d⟩ := C.2 i q
    exact ⟨(h.2 _ _ (by omega)).trans a, (h.2 _ _ (by omega)).trans b, fun l hl => (h.1 _ _ (by omega) (by omega)).trans (d l hl)⟩
def FRf (s u : gx_S) : Prop := (∀ a i, a ≠ 63 → a ≠ 67 → a ≠ 68 → u.1 a i = s.1 a i) ∧ ∀ a i, ¬ (a = 62 ∧ 8 ≤ i) → u.2 a i = s.2 a i
theorem FRf_tr {s t u : gx_S} (x : FRf s t) (y : FRf t u) : FRf s u := ⟨fun a i h1 h2 h3 => (y.1 a i h1 h2 h3).trans (x.1 a i h1 h2 h3), fun a i h => (y.2 a i h).trans (x.2 a i h)⟩
theorem FRf_rf (s : gx_S) : FRf s s := ⟨fun _ _ _ _ _ => rfl, fun _ _ _ => rfl⟩
theorem FQ_FRf {s u : gx_S} (h : FQ s u) : FRf s u := ⟨fun a i _ h2 h3 => h.1 a i h2 h3, fun a i q => h.2 a i (by omega)⟩
theorem sp_16 {e : Nat} {s : gx_S} (B : XB X c P) (ho : wB9 o) (D : OD s X c P (RE X o e)) (C : CBf s X c P o e) (sp : 0 < SA X (RE X o e)) : ∃ u : gx_S, gm_16 s = some u ∧ OD u X c P (RE X o e) ∧ CBf u X c P o (e + 1) ∧ FRf s u := by
  have We := RE_B X ho e
  have c14 := sp_14 D.1 B We D.2.1
  have mr := MS_r B We
  have sr := SA_r B We
  have e8 : s.2 62 8 = SA X (RE X o e) := D.2.1.2
  -- what is kept if it is better
  have st : BI X c P o (e + 1) = some e → ∃ u : gx_S, gm_16_33 (MS X c P (RE X o e)) s = some u ∧ OD u X c P (RE X o e) ∧ CBf u X c P o (e + 1) ∧ FRf s u := fun hb => by
    unfold gm_16_33
    obtain ⟨u, hu⟩ : ∃ u, u = gcp (gw2 (gw2 s 62 9 (MS X c P (RE X o e))) 62 10 ((gw2 s 62 9 (MS X c P (RE X o e))).2 62 8)) 67 0 63 0 4 := ⟨_, rfl⟩
    have u1 : ∀ a i, a ≠ 63 → u.1 a i = s.1 a i := fun a i h => by rw [hu, gcp_1, if_neg (fun x => h x.1)]; rfl
    have uu : u.2 = (gw2 (gw2 s 62 9 (MS X c P (RE X o e))) 62 10 ((gw2 s 62 9 (MS X c P (RE X o e))).2 62 8)).2 := by rw [hu]; rfl
    have u2 : ∀ a i, ¬ (a = 62 ∧ (i = 9 ∨ i = 10)) → u.2 a i = s.2 a i := fun a i h => by rw [uu, gw2_2, if_neg (by omega), gw2_2, if_neg (by omega)]
    have u3 : u.2 62 10 = SA X (RE X o e) := by rw [uu, gw2_2, if_pos ⟨rfl, rfl⟩, gw2_2, if_neg (by omega), e8]
    have u4 : u.2 62 9 = MS X c P (RE X o e) := by rw [uu, gw2_2, if_neg (by omega), gw2_2, if_pos ⟨rfl, rfl⟩]
    have u5 : ∀ l, l < 4 → u.1 63 l = RE X o e l := fun l hl => by
      rw [hu, gcp_1, if_pos ⟨rfl, by omega, by omega⟩]
      show s.1 67 (0 + (l - 0)) = _
      rw [show 0 + (l - 0) = l by omega]
      exact D.2.2 l hl
    refine ⟨u, by rw [hu], ⟨FS_o (fun b i h => u1 b i (by omega)) (u2 _ _ (by omega)) D.1, ⟨fun z hz k => (u1 _ _ (by decide)).trans (D.2.1.1 z hz k), (u2 _ _ (by omega)).trans e8⟩, fun l hl => (u1 _ _ (by decide)).trans (D.2.2 l hl)⟩, ⟨fun q => ?_, fun i q => ?_⟩, ⟨fun a i h1 _ _ => u1 a i h1, fun a i h => u2 a i (by omega)⟩⟩
    · rw [hb] at q; cases q
    · rw [hb] at q
      cases q
      exact ⟨u3, u4, u5⟩
  unfold gm_16
  rw [c14, Option.bind_some]
  dsimp only
  cases q : BI X c P o e with
  | none =>
    obtain ⟨a, b, d⟩ := C.1 q
    rw [a, if_pos (by omega), if_pos rfl]
    exact st (by rw [BI_n q, if_pos sp])
  | some i =>
    obtain ⟨a, b, d⟩ := C.2 i q
    have pi := (BI_p e i q).2
    have m1 := MS_r B (RE_B X ho i)
    have s1 := SA_r B (RE_B X ho i)
    have p1 := mul_r mr s1
    have p2 := mul_r m1 sr
    rw [a, if_pos (by omega), if_neg (by omega), if_pos (by omega), b, e8, if_pos (by omega)]
    by_cases y : MS X c P (RE X o i) * SA X (RE X o e) ≤ MS X c P (RE X o e) * SA X (RE X o i)
    · rw [if_pos y]
      have hb : BI X c P o (e + 1) = some i := by rw [BI_s q, if_neg (by omega)]
      refine ⟨s, rfl, D, ⟨fun p => ?_, fun k p => ?_⟩, FRf_rf s⟩
      · rw [hb] at p; cases p
      · rw [hb] at p
        cases p
        exact ⟨a, b, d⟩
    · rw [if_neg y]
      exact st (by rw [BI_s q, if_pos ⟨sp, by omega⟩])
theorem sl_15_80 (B : XB X c P) (ho : wB9 o) : ∀ (n e : Nat) (t : gx_S), zq X 4 < n + e → e ≤ zq X 4 → OD t X c P (RE X o e) → CBf t X c P o e → ∃ u : gx_S, gm_15_80 n (zq X 4 : Nat) e t = some u ∧ CBf u X c P o (zq X 4) ∧ FRf t u := by
  have z4 := zq_r X 4
  intro n
  induction n with
  | zero => intro e t h; omega
  | succ n ih =>
    intro e t h he D C
    rw [gm_15_80, if_pos (by omega), if_pos (by omega)]
    by_cases q : e = zq X 4
    · rw [if_pos (by omega)]
      rw [q] at C
      exact ⟨t, rfl, C, FRf_rf t⟩
    · have ce : ((e : Int) + 1) = ((e + 1 : Nat) : Int) := rfl
      have e8 : t.2 62 8 = SA X (RE X o e) := D.2.1.2
      have sr := SA_r B (RE_B X ho e)
      have r9 : 0 ≤ t.2 62 9 ∧ t.2 62 9 ≤ 19904569344 := by
        cases p : BI X c P o e with
        | none => rw [(C.1 p).2.1]; omega
        | some i => rw [(C.2 i p).2.1]; exact MS_r B (RE_B X ho i)
      rw [if_neg (by omega), if_pos (by omega)]
      by_cases y : t.2 62 9 ≤ 0
      · rw [if_pos y]
        refine ⟨t, rfl, ?_, FRf_rf t⟩
        cases p : BI X c P o e with
        | none => rw [(C.1 p).2.1] at y; omega
        | some i =>
          rw [(C.2 i p).2.1] at y
          have hs := BI_stop B ho p y (zq X 4 - e)
          rw [show e + (zq X 4 - e) = zq X 4 by omega] at hs
          refine ⟨fun k => ?_, fun k hk => ?_⟩
          · rw [hs] at k; cases k
          · rw [hs] at hk
            cases hk
            exact C.2 i p
      · have nx : ∀ v : gx_S, OD v X c P (RE X o e) → CBf v X c P o (e + 1) → FRf t v → ∃ u : gx_S, gm_15_107 (gm_15_80 n) (zq X 4 : Nat) e v = some u ∧ CBf u X c P o (zq X 4) ∧ FRf t u := fun v Dv Cv fv => by
          obtain ⟨a, a1, a2, a3⟩ := sp_17 B ho Dv
          obtain ⟨u, u1, u2, u3⟩ := ih (e + 1) a (by omega) (by omega) a2 (CBf_FQ a3 Cv)
          refine ⟨u, ?_, u2, FRf_tr fv (FRf_tr (FQ_FRf a3) u3)⟩
          unfold gm_15_107
          rw [a1, Option.bind_some, ce, u1]
        rw [if_neg y, e8, if_pos (by omega)]
        by_cases k : SA X (RE X o e) ≤ 0
        · rw [if_pos k]
          have hb := BI_0 (X := X) (c := c) (P := P) (o := o) (e := e) (by omega)
          refine nx t D ?_ (FRf_rf t)
          unfold CBf
          rw [hb]
          exact C
        · rw [if_neg k]
          obtain ⟨v, v1, v2, v3, v4⟩ := sp_16 B ho D C (by omega)
          rw [v1, Option.bind_some]
          exact nx v v2 v3 v4
theorem sl_15_4 (B : XB X c P) (ho : wB9 o) : ∀ (n j A : Nat) (t : gx_S), 4 < n + j → j ≤ 4 → A * zq X (4 - j) = zq X 4 → FS t X c P → (∀ l, l < 4 → t.1 63 l = o l) → (∀ l, l < j → t.1 67 l = RE X o 0 l) → ∃ u : gx_S, gm_15_4 n A j t = some u ∧ CBf u X c P o (zq X 4) ∧ FRf t u := by
  have z4 := zq_r X 4
  intro n
  induction n with
  | zero => intro j A t h; omega
  | succ n ih =>
    intro j A t h hj eA F e63 e67
    rw [gm_15_4, if_pos (by omega)]
    by_cases q : j = 4
    · have eA : A = zq X 4 := by
        rw [q] at eA
        have : A * 1 = zq X 4 := eA
        omega
      rw [if_pos (by omega), eA]
      obtain ⟨v, v1, v2, v3, v4⟩ := sp_12 (k := 67) (a := 0) (m := 4) (w := RE X o 0) F B (by decide +kernel) (by omega) (by decide) (RE_B X ho 0) fun l hl => by rw [Nat.zero_add]; exact e67 l (by omega)
      have v1 : gm_12 67 0 t = _ := v1
      rw [v1, Option.bind_some]
      obtain ⟨b, hb⟩ : ∃ b, b = gw2 (gw2 v 62 10 0) 62 9 1 := ⟨_, rfl⟩
      have b1 : b.1 = v.1 := by rw [hb]; rfl
      have b2 : ∀ a i, ¬ (a = 62 ∧ (i = 9 ∨ i = 10)) → b.2 a i = v.2 a i := fun a i h => by rw [hb, gw2_2, if_neg (by omega), gw2_2, if_neg (by omega)]
      show ∃ u : gx_S, gm_15_80 100000 (zq X 4 : Nat) 0 (gw2 (gw2 v 62 10 0) 62 9 1) = some u ∧ _
      rw [← hb]
      have fb : FRf t b := ⟨fun a i _ _ h3 => by rw [b1]; exact v3 a i h3, fun a i h => by rw [b2 a i (by omega)]; exact v4 a i (by omega)⟩
      obtain ⟨u, u1, u2, u3⟩ := sl_15_80 B ho 100000 0 b (by omega) (by omega) ⟨FS_o (fun a i h => fb.1 a i (by omega) (by omega) (by omega)) (fb.2 _ _ (by omega)) F, ⟨fun z hz k => by rw [b1]; exact v2.1 z hz k, (b2 _ _ (by omega)).trans v2.2⟩, fun l hl => by rw [b1, v3 _ _ (by decide)]; exact e67 l (by omega)⟩ ⟨fun _ => ⟨by rw [hb, gw2_2, if_neg (by omega), gw2_2, if_pos ⟨rfl, rfl⟩], by rw [hb, gw2_2, if_pos ⟨rfl, rfl⟩], fun l hl => by rw [b1, v3 _ _ (by decide)]; exact e63 l hl⟩, fun i p => by cases p⟩
      have u1 : gm_15_80 100000 (zq X 4 : Nat) 0 b = _ := u1
      exact ⟨u, u1, u2, FRf_tr fb u3⟩
    · have ce : ((j : Int) + 1) = ((j + 1 : Nat) : Int) := rfl
      have i1 : ((j : Int)).toNat = j := by omega
      have lr := LC_r B (show j < 4 by omega)
      have e66 := F.2.2.1 j (by omega)
      have z4 : zq X (4 - j) = bsz X j * zq X (4 - (j + 1)) := by
        rw [show 4 - j = (4 - (j + 1)) + 1 by omega]
        show bsz X (3 - (4 - (j + 1))) * _ = _
        rw [show 3 - (4 - (j + 1)) = j by omega]
      have nx : ∀ (b : Nat) (x : Int), b = bsz X j → x = RE X o 0 j → ∃ u : gx_S, gm_15_4 n ((A : Int) * (b : Int)) ((j + 1 : Nat) : Int) (gw1 t 67 j x) = some u ∧ CBf u X c P o (zq X 4) ∧ FRf t u := fun b x hb hx => by
        rw [← Int.natCast_mul]
        obtain ⟨u, u1, u2, u3⟩ := ih (j + 1) (A * b) (gw1 t 67 j x) (by omega) (by omega) (by rw [hb, Nat.mul_assoc, ← z4]; exact eA) (FS_o (fun a i h => by rw [gw1_1, if_neg (by omega)]) rfl F) (fun l hl => by rw [gw1_1, if_neg (by omega)]; exact e63 l hl) (fun l hl => by
          rw [gw1_1]
          by_cases p : l = j
          · rw [if_pos ⟨rfl, p⟩, hx, p]
          · rw [if_neg (fun y => p y.2)]
            exact e67 l (by omega))
        exact ⟨u, u1, u2, FRf_tr (t := gw1 t 67 j x) ⟨fun a i _ h2 _ => by rw [gw1_1, if_neg (fun y => h2 y.1)], fun _ _ _ => rfl⟩ u3⟩
      rw [if_neg (by omega), if_pos (by omega), i1, e66, if_pos (by omega)]
      by_cases y : LC X j ≤ 0
      · rw [if_pos y]
        unfold gm_15_25 gm_15_51
        rw [if_pos (by omega), i1, e66, if_pos (by omega), if_pos y, if_pos (by omega), ce, e63 j (by omega)]
        exact nx 1 (o j) (by unfold bsz; rw [if_neg (by omega)]) (RE_z (by omega) 0).symm
      · rw [if_neg y]
        unfold gm_15_25 gm_15_51
        rw [if_pos (by omega), i1, e66, if_pos (by omega), if_neg y, if_pos (by omega), ce]
        exact nx 10 0 (by unfold bsz; rw [if_pos (by omega)]) (RE_0 (by omega)).symm
theorem sp_15 {s : gx_S} (B : XB X c P) (ho : wB9 o) (F : FS s X c P) (e63 : ∀ l, l < 4 → s.1 63 l = o l) : ∃ u : gx_S, gm_15 s = some u ∧ CBf u X c P o (zq X 4) ∧ FRf s u := by
  obtain ⟨u, u1, u2, u3⟩ := sl_15_4 B ho 100000 0 1 s (by omega) (by omega) (Nat.one_mul _) F e63 (fun l hl => absurd hl (Nat.not_lt_zero l))
  exact ⟨u, u1, u2, u3⟩
end
end
section
/-! FIT: the reference finds the best row -/
section
variable {X : Nat → Nat → Int} {c : Nat → Int} {P : Int} {o : Nat → Int} {g : Nat}
def CRf (t : gx_S) (X : Nat → Nat → Int) (c : Nat → Int) (P : Int) (o : Nat → Int) (e : Nat) : Prop := (BI X c P o e = none → t.1 215 43 = 0) ∧ ∀ i, BI X c P o e = some i → t.1 215 43 = 1 ∧ t.2 215 44 = MS X c P (RE X o i) ∧ t.2 215 45 = SA X (RE X o i) ∧ ∀ l, l < 4 → t.1 244 l = RE X o i l
def RBf (t : gx_S) (X : Nat → Nat → Int) (c : Nat → Int) (P : Int) (o : Nat → Int) (g : Nat) : Prop := (∀ z l, z < 8 → l < 4 → t.1 242 (4 * z + l) = X z l) ∧ t.1 215 42 = P ∧ (∀ z, z < 8 → t.1 216 (5 + 9 * g + z) = c z) ∧ ∀ l, l < 4 → ¬ 0 < LC X l → t.1 243 l = o l
def KF1 (s u : gx_S) : Prop := (∀ a i, a ≠ 243 → a ≠ 244 → ¬ (a = 215 ∧ i = 43) → u.1 a i = s.1 a i) ∧ ∀ a i, ¬ (a = 215 ∧ 40 ≤ i) → u.2 a i = s.2 a i
theorem KF1_tr {s t u : gx_S} (x : KF1 s t) (y : KF1 t u) : KF1 s u := ⟨fun a i h1 h2 h3 => (y.1 a i h1 h2 h3).trans (x.1 a i h1 h2 h3), fun a i h => (y.2 a i h).trans (x.2 a i h)⟩
theorem KF1_rf (s : gx_S) : KF1 s s := ⟨fun _ _ _ _ _ => rfl, fun _ _ _ => rfl⟩
theorem RBf_o {s u : gx_S} (k : KF1 s u) (h : ∀ l, l < 4 → ¬ 0 < LC X l → u.1 243 l = s.1 243 l) (R : RBf s X c P o g) : RBf u X c P o g := ⟨fun z l hz hl => (k.1 _ _ (by decide) (by decide) (by omega)).trans (R.1 z l hz hl), (k.1 _ _ (by decide) (by decide) (by omega)).trans R.2.1, fun z hz => (k.1 _ _ (by decide) (by decide) (by omega)).trans (R.2.2.1 z hz), fun l hl q => (h l hl q).trans (R.2.2.2 l hl q)⟩
theorem sl_211_113 (k : Int → Int → gx_S → Option gx_S) : ∀ (n j : Nat) (t : gx_S), 4 < n + j → j ≤ 4 → ∃ u : gx_S, gm_211_113 k n j t = some u ∧ u.2 = t.2 ∧ (∀ a i, a ≠ 244 → u.1 a i = t.1 a i) ∧ ∀ i, u.1 244 i = if j ≤ i ∧ i < 4 then t.1 243 i else t.1 244 i := by
  intro n
  induction n with
  | zero => intro j t h; omega
  | succ n ih =>
    intro j t h hj
    rw [gm_211_113, if_pos (by omega)]
    by_cases q : j = 4
    · rw [if_pos (by omega)]
      exact ⟨t, rfl, rfl, fun _ _ _ => rfl, fun i => by rw [if_neg (by omega)]⟩
    · have ce : ((j : Int) + 1) = ((j + 1 : Nat) : Int) := rfl
      have i1 : ((j : Int)).toNat = j := by omega
      rw [if_neg (by omega), if_pos (by omega), i1, ce]
      obtain ⟨u, u1, u2, u3, u4⟩ := ih (j + 1) (gw1 t 244 j (t.1 243 j)) (by omega) (by omega)
      refine ⟨u, u1, u2, fun a i h => by rw [u3 a i h, gw1_1, if_neg (fun x => h x.1)], fun i => ?_⟩
      rw [u4, gw1_1 t 244 j _ 243, if_neg (show ¬ ((243 : Nat) = 244 ∧ i = j) by omega), gw1_1]
      by_cases z : i = j
      · rw [if_neg (show ¬ (j + 1 ≤ i ∧ i < 4) by omega), if_pos (show (244 : Nat) = 244 ∧ i = j from ⟨rfl, z⟩), if_pos (show j ≤ i ∧ i < 4 by omega), z]
      · rw [if_neg (show ¬ ((244 : Nat) = 244 ∧ i = j) from fun x => z x.2)]
        by_cases y : j + 1 ≤ i ∧ i < 4
        · rw [if_pos y, if_pos (show j ≤ i ∧ i < 4 by omega)]
        · rw [if_neg y, if_neg (show ¬ (j ≤ i ∧ i < 4) by omega)]
theorem sp_211L {e : Nat} {t : gx_S} (k : Int → Int → gx_S → Option gx_S) (B : XB X c P) (ho : wB9 o) (hg : g < 3) (R : RBf t X c P o g) (er : ∀ l, l < 4 → t.1 243 l = RE X o e l) (C : CRf t X c P o e) : ∃ u : gx_S, gm_211o k g 4 t = some u ∧ CRf u X c P o (e + 1) ∧ RBf u X c P o g ∧ (∀ l, l < 4 → u.1 243 l = t.1 243 l) ∧ KF1 t u := by
  have We := RE_B X ho e
  have sr := SA_r B We
  have mr := MS_r B We
  obtain ⟨v, v1, v2, v3, v4, v5⟩ := sp_209 hg B We ⟨R.1, er⟩ R.2.1 R.2.2.1
  have kv : KF1 t v := ⟨fun a i _ _ _ => by rw [v2], fun a i h => v5 a i (by omega)⟩
  have rv : RBf v X c P o g := RBf_o kv (fun l hl _ => by rw [v2]) R
  have st : BI X c P o (e + 1) = some e → ∃ u : gx_S, gm_211_90 k v = some u ∧ CRf u X c P o (e + 1) ∧ RBf u X c P o g ∧ (∀ l, l < 4 → u.1 243 l = t.1 243 l) ∧ KF1 t u := fun hb => by
    unfold gm_211_90
    obtain ⟨a, ha⟩ : ∃ a, a = gw2 (gw2 (gw1 v 215 43 1) 215 44 ((gw1 v 215 43 1).2 215 40)) 215 45 ((gw2 (gw1 v 215 43 1) 215 44 ((gw1 v 215 43 1).2 215 40)).2 215 41) := ⟨_, rfl⟩
    have a1 : a.1 = (gw1 v 215 43 1).1 := by rw [ha]; rfl
    have a2 : a.2 = (gw2 (gw2 v 215 44 (v.2 215 40)) 215 45 ((gw2 v 215 44 (v.2 215 40)).2 215 41)).2 := by rw [ha]; rfl
    have ao : ∀ b i, ¬ (b = 215 ∧ i = 43) → a.1 b i = t.1 b i := fun b i h => by rw [a1, gw1_1, if_neg h, v2]
    have a44 : a.2 215 44 = MS X c P (RE X o e) := by rw [a2, gw2_2, if_neg (by omega), gw2_2, if_pos ⟨rfl, rfl⟩, v3]
    have a45 : a.2 215 45 = SA X (RE X o e) := by rw [a2, gw2_2, if_pos ⟨rfl, rfl⟩, gw2_2, if_neg (by omega), v4]
    have a43 : a.1 215 43 = 1 := by rw [a1, gw1_1, if_pos ⟨rfl, rfl⟩]
    have ap : ∀ b i, ¬ (b = 215 ∧ 40 ≤ i) → a.2 b i = t.2 b i := fun b i h => by rw [a2, gw2_2, if_neg (by omega), gw2_2, if_neg (by omega), v5 b i (by omega)]
    rw [← ha]
    obtain ⟨u, u1, u2, u3, u4⟩ := sl_211_113 k 100000 0 a (by omega) (by omega)
    have u1 : gm_211_113 k 100000 0 a = some u := u1
    have ku : KF1 t u := ⟨fun b i _ h2 h3 => by rw [u3 b i h2, ao b i h3], fun b i h => by rw [u2, ap b i h]⟩
    have e243 : ∀ l, u.1 243 l = t.1 243 l := fun l => by rw [u3 _ _ (by decide), ao _ _ (by omega)]
    refine ⟨u, u1, ⟨fun q => ?_, fun i q => ?_⟩, RBf_o ku (fun l _ _ => e243 l) R, fun l _ => e243 l, ku⟩
    · rw [hb] at q; cases q
    · rw [hb] at q
      cases q
      exact ⟨by rw [u3 _ _ (by decide)]; exact a43, by rw [u2]; exact a44, by rw [u2]; exact a45, fun l hl => by rw [u4, if_pos (by omega), ao _ _ (by omega)]; exact er l hl⟩
  unfold gm_211o
  rw [if_pos (by decide), if_pos (by decide), v1, Option.bind_some]
  by_cases q : 0 < SA X (RE X o e)
  · rw [if_neg (fun y => (gbD v).mp y q)]
    show ∃ u : gx_S, (if (-2147483648 ≤ (v.1 215 43) ∧ (v.1 215 43) ≤ 2147483647) then (if (v.1 215 43) = 0 then gm_211_90 k v else (if (-9223372036854775808 ≤ ((v.2 215 40) * (v.2 215 45)) ∧ ((v.2 215 40) * (v.2 215 45)) ≤ 9223372036854775807) then (if (-9223372036854775808 ≤ ((v.2 215 44) * (v.2 215 41)) ∧ ((v.2 215 44) * (v.2 215 41)) ≤ 9223372036854775807) then (if ((v.2 215 40) * (v.2 215 45)) < ((v.2 215 44) * (v.2 215 41)) then gm_211_90 k v else some v) else none) else none)) else none) = some u ∧ _
    rw [v2]
    cases p : BI X c P o e with
    | none =>
      rw [C.1 p, if_pos (by decide), if_pos rfl]
      exact st (by rw [BI_n p, if_pos q])
    | some i =>
      obtain ⟨b1, b2, b3, b4⟩ := C.2 i p
      have m1 := MS_r B (RE_B X ho i)
      have s1 := SA_r B (RE_B X ho i)
      have p1 := mul_r mr s1
      have p2 := mul_r m1 sr
      rw [b1, if_pos (by decide), if_neg (by decide), v3, v4, v5 215 45 (by omega), v5 215 44 (by omega), b2, b3, if_pos (by omega), if_pos (by omega)]
      by_cases y : MS X c P (RE X o e) * SA X (RE X o i) < MS X c P (RE X o i) * SA X (RE X o e)
      · rw [if_pos y]
        exact st (by rw [BI_s p, if_pos ⟨q, y⟩])
      · rw [if_neg y]
        have hb : BI X c P o (e + 1) = some i := by rw [BI_s p, if_neg fun x => y x.2]
        refine ⟨v, rfl, ⟨fun x => ?_, fun j x => ?_⟩, rv, fun l _ => by rw [v2], kv⟩
        · rw [hb] at x; cases x
        · rw [hb] at x
          cases x
          exact ⟨by rw [v2]; exact b1, by rw [v5 _ _ (by omega)]; exact b2, by rw [v5 _ _ (by omega)]; exact b3, fun l hl => by rw [v2]; exact b4 l hl⟩
  · rw [if_pos ((gbD v).mpr q)]
    refine ⟨v, rfl, ?_, rv, fun l _ => by rw [v2], kv⟩
    unfold CRf
    rw [BI_0 q, v2]
    refine ⟨C.1, fun i p => ?_⟩
    obtain ⟨b1, b2, b3, b4⟩ := C.2 i p
    exact ⟨b1, by rw [v5 _ _ (by omega)]; exact b2, by rw [v5 _ _ (by omega)]; exact b3, b4⟩
theorem sl_211 (B : XB X c P) (ho : wB9 o) (hg : g < 3) : ∀ (d n : Nat) (t : gx_S) (e : Nat), d < n → d ≤ 4 → RBf t X c P o g → (∀ j, j < 4 - d → t.1 243 j = RE X o e j) → zq X d ∣ e → CRf t X c P o e → ∃ u : gx_S, gm_211f n g ((4 - d : Nat) : Int) t = some u ∧ CRf u X c P o (e + zq X d) ∧ RBf u X c P o g ∧ (∀ j, j < 4 - d → u.1 243 j = t.1 243 j) ∧ KF1 t u := by
  intro d
  induction d with
  | zero =>
    intro n t e hn _ R er hz C
    obtain ⟨n, rfl⟩ : ∃ k, n = k + 1 := ⟨n - 1, by omega⟩
    rw [gm_211f]
    exact sp_211L (gm_211f n) B ho hg R er C
  | succ d ih =>
    intro n t e hn hd R er hz C
    obtain ⟨n, rfl⟩ : ∃ k, n = k + 1 := ⟨n - 1, by omega⟩
    have el : 4 - (d + 1) = 3 - d := by omega
    rw [el] at er ⊢
    have l4 : 3 - d < 4 := by omega
    have lr := LC_r B l4
    have ce : (((3 - d : Nat) : Int) + 1) = ((4 - d : Nat) : Int) := by omega
    have hz0 := (zq_r X d).1
    have zs : zq X (d + 1) = bsz X (3 - d) * zq X d := rfl
    rw [gm_211f]
    unfold gm_211o
    rw [if_pos (by omega), if_neg (by omega), sp_207 R.1 l4, Option.bind_some]
    dsimp only
    rw [if_pos (by omega)]
    by_cases q : LC X (3 - d) = 0
    · have z1 : zq X (d + 1) = zq X d := by
        rw [zs]
        unfold bsz
        rw [if_neg (by omega), Nat.one_mul]
      rw [z1] at hz ⊢
      rw [if_neg (fun y => y q), ce]
      obtain ⟨u, u1, u2, u3, u4, u5⟩ := ih n t e (by omega) (by omega) R (fun j hj => by
        by_cases p : j = 3 - d
        · rw [p, RE_z (by omega)]
          exact R.2.2.2 (3 - d) l4 (by omega)
        · exact er j (by omega)) hz C
      rw [u1, Option.bind_some]
      exact ⟨u, rfl, u2, u3, fun j hj => u4 j (by omega), u5⟩
    · have z10 : zq X (d + 1) = 10 * zq X d := by
        rw [zs]
        unfold bsz
        rw [if_pos (by omega)]
      rw [if_pos q]
      have lp : ∀ (m w : Nat) (t' : gx_S), 10 < m + w → w ≤ 10 → RBf t' X c P o g → (∀ j, j < 3 - d → t'.1 243 j = RE X o e j) → CRf t' X c P o (e + w * zq X d) → ∃ u : gx_S, gm_211_24 (gm_211f n) m g ((3 - d : Nat) : Int) w t' = some u ∧ CRf u X c P o (e + 10 * zq X d) ∧ RBf u X c P o g ∧ (∀ j, j < 3 - d → u.1 243 j = t'.1 243 j) ∧ KF1 t' u := by
        intro m
        induction m with
        | zero => intro w t' h; omega
        | succ m ihm =>
          intro w t' h hw R' er' C'
          rw [gm_211_24, if_pos (by omega)]
          by_cases y : w = 10
          · rw [if_pos (by omega)]
            rw [y] at C'
            exact ⟨t', rfl, C', R', fun _ _ => rfl, KF1_rf t'⟩
          · have cw : ((w : Int) + 1) = ((w + 1 : Nat) : Int) := rfl
            have i1 : (((3 - d : Nat) : Int)).toNat = 3 - d := by omega
            rw [if_neg (by omega), if_pos (by omega), i1, ce, cw]
            obtain ⟨a, ha⟩ : ∃ a, a = gw1 t' 243 (3 - d) w := ⟨_, rfl⟩
            have a1 : ∀ b i, ¬ (b = 243 ∧ i = 3 - d) → a.1 b i = t'.1 b i := fun b i h => by rw [ha, gw1_1, if_neg h]
            have a2 : a.1 243 (3 - d) = w := by rw [ha, gw1_1, if_pos ⟨rfl, rfl⟩]
            have a3 : a.2 = t'.2 := by rw [ha]; rfl
            have ka : KF1 t' a := ⟨fun b i h1 _ _ => a1 b i (fun x => h1 x.1), fun b i _ => by rw [a3]⟩
            have Ra : RBf a X c P o g := RBf_o ka (fun l hl p => a1 _ _ (fun x => p (by rw [x.2]; omega))) R'
            have wz : w * zq X d < zq X (d + 1) := by
              rw [z10]
              exact Nat.mul_lt_mul_of_pos_right (by omega) hz0
            have Ca : CRf a X c P o (e + w * zq X d) := ⟨fun p => by rw [a1 _ _ (by omega)]; exact C'.1 p, fun i p => by
              obtain ⟨b1, b2, b3, b4⟩ := C'.2 i p
              exact ⟨by rw [a1 _ _ (by omega)]; exact b1, by rw [a3]; exact b2, by rw [a3]; exact b3, fun l hl => by rw [a1 _ _ (by omega)]; exact b4 l hl⟩⟩
            rw [← ha]
            obtain ⟨v, v1, v2, v3, v4, v5⟩ := ih n a (e + w * zq X d) (by omega) (by omega) Ra (fun j hj => by
              by_cases p : j = 3 - d
              · rw [p, a2, RE_dig hz (by omega) (by omega) (by omega)]
              · rw [a1 _ _ (fun x => p x.2), RE_pre hz wz (by omega)]
                exact er' j (by omega)) (Nat.dvd_add (Nat.dvd_trans (zq_dvd X (Nat.le_succ d)) hz) ⟨w, Nat.mul_comm _ _⟩) Ca
            rw [v1, Option.bind_some]
            obtain ⟨u, u1, u2, u3, u4, u5⟩ := ihm (w + 1) v (by omega) (by omega) v3 (fun j hj => by rw [v4 j (by omega), a1 _ _ (by omega)]; exact er' j hj) (by rw [Nat.add_mul, Nat.one_mul, ← Nat.add_assoc]; exact v2)
            exact ⟨u, u1, u2, u3, fun j hj => by rw [u4 j hj, v4 j (by omega), a1 _ _ (by omega)], KF1_tr ka (KF1_tr v5 u5)⟩
      obtain ⟨u, u1, u2, u3, u4, u5⟩ := lp 100000 0 t (by omega) (by omega) R er (by rw [Nat.zero_mul]; exact C)
      have u1 : gm_211_24 (gm_211f n) 100000 g ((3 - d : Nat) : Int) 0 t = some u := u1
      rw [z10]
      exact ⟨u, u1, u2, u3, u4, u5⟩
theorem sp_211 {t : gx_S} (B : XB X c P) (ho : wB9 o) (hg : g < 3) (R : RBf t X c P o g) (h : t.1 215 43 = 0) : ∃ u : gx_S, gm_211 g 0 t = some u ∧ CRf u X c P o (zq X 4) ∧ KF1 t u := by
  obtain ⟨u, u1, u2, u3, u4, u5⟩ := sl_211 B ho hg 4 6 t 0 (by omega) (by omega) R (fun j hj => absurd hj (by omega)) ⟨0, rfl⟩ ⟨fun _ => h, fun i p => by cases p⟩
  rw [Nat.zero_add] at u2
  exact ⟨u, u1, u2, u5⟩
end
end
section
/-! CALLS: fit -/
def ff (f : Nat → Int) (g : Nat) (w : Nat → Int) (q : Nat) : Int := if 32 + 4 * g ≤ q ∧ q < 36 + 4 * g then w (q - 32 - 4 * g) else f q
theorem MP_ff {f : Nat → Int} {R C g : Nat} {w : Nat → Int} (M : MP f R C) (hg : g < 3) (W : wB9 w) : MP (ff f g w) R C := by
  obtain ⟨m1, m2, m3, m4, m5, m6, m7, m8, m10⟩ := M
  have o : ∀ q, ¬ (32 + 4 * g ≤ q ∧ q < 36 + 4 * g) → ff f g w q = f q := fun q hq => if_neg hq
  refine ⟨?_, ?_, ?_, ?_, fun h hh => ⟨fun z hz => ?_, ?_⟩, fun q hq => ?_, fun q hq => ?_, fun l hl b k hk => ?_, ?_⟩
  · rw [o 0 (by omega), o 1 (by omega)]; exact m1
  · rw [o 2 (by omega)]; exact m2
  · rw [o 3 (by omega)]; exact m3
  · rw [o 4 (by omega)]; exact m4
  · rw [o _ (by omega)]; exact (m5 h hh).1 z hz
  · rw [sg_eq (g := fun z => f (5 + 9 * h + z)) fun z hz => o _ (by omega)]; exact (m5 h hh).2
  · by_cases p : 4 * g ≤ q ∧ q < 4 * g + 4
    · unfold ff
      rw [if_pos (by omega)]
      exact W _ (by omega)
    · rw [o _ (by omega)]; exact m6 q hq
  · rw [o _ (by omega)]; exact m7 q hq
  · rw [o 2 (by omega)] at b
    rw [o _ (by omega)]
    exact m8 l hl b k hk
  · rw [o 2 (by omega)]; exact m10
theorem MR_ff {u : gx_S} {f : Nat → Int} {R C g : Nat} {w : Nat → Int} (m : MR u 1 f R C) (hg : g < 3) (hw : ∀ l, l < 4 → u.1 63 l = w l) : MR (gcp u 63 0 4 (4 * g) 4) 1 (ff f g w) R C := by
  obtain ⟨m1, m2, m3, m4, m5, m6, m7, m8, m9⟩ := m
  have o : ∀ q, ¬ (32 + 4 * g ≤ q ∧ q < 36 + 4 * g) → ff f g w q = f q := fun q hq => if_neg hq
  have uo : ∀ a i, a ≠ 4 → (gcp u 63 0 4 (4 * g) 4).1 a i = u.1 a i := fun a i h => by rw [gcp_1, if_neg (fun x => h x.1)]
  refine ⟨by rw [uo _ _ (by decide), o 0 (by omega)]; exact m1, by rw [uo _ _ (by decide), o 1 (by omega)]; exact m2, by rw [uo _ _ (by decide), o 2 (by omega)]; exact m3, by rw [uo _ _ (by decide), o 3 (by omega)]; exact m4, by rw [uo _ _ (by decide), o 4 (by omega)]; exact m5, fun i hi => by rw [uo _ _ (by decide), o _ (by omega)]; exact m6 i hi, fun i hi => ?_, fun i hi => by rw [uo _ _ (by decide), o _ (by omega)]; exact m8 i hi, fun l hl b k hk => ?_⟩
  · rw [show (1 : Nat) + 3 = 4 from rfl] at m7 ⊢
    rw [gcp_1]
    unfold ff
    by_cases p : 4 * g ≤ i ∧ i < 4 * g + 4
    · rw [if_pos ⟨rfl, p⟩, if_pos (by omega), show 0 + (i - 4 * g) = i - 4 * g by omega, show 32 + i - 32 - 4 * g = i - 4 * g by omega]
      exact hw _ (by omega)
    · rw [if_neg (fun x => p x.2), if_neg (by omega)]
      exact m7 i hi
  · rw [o 2 (by omega)] at b
    rw [uo _ _ (by decide), o _ (by omega)]
    exact m9 l hl b k hk
def cntf (b o : Nat → Int) (j : Nat) : Int := sg (fun l => if b l = o l then 0 else 1) j
theorem cntf_r (b o : Nat → Int) : ∀ j : Nat, 0 ≤ cntf b o j ∧ cntf b o j ≤ j := by
  intro j
  have := sg_bd (f := fun l => if b l = o l then 0 else 1) (B := 1) (n := j) fun k _ => by
    show 0 ≤ (if b k = o k then (0 : Int) else 1) ∧ (if b k = o k then (0 : Int) else 1) ≤ 1
    split <;> omega
  unfold cntf
  omega
theorem sl_92 {s : gx_S} {g : Nat} {b o : Nat → Int} (hg : g < 3) (hb : ∀ l, l < 4 → s.1 63 l = b l) (ho : ∀ l, l < 4 → s.1 4 (4 * g + l) = o l) (rb : wB9 b) (ro : wB9 o) : ∀ (n j : Nat), 4 < n + j → j ≤ 4 → gm_92_21 n g (cntf b o j) j s = if cntf b o 4 = 0 then some (-2, s) else (gm_119 s).bind fun q6 => some (cntf b o 4, gcp q6 63 0 4 (4 * g) 4) := by
  intro n
  induction n with
  | zero => intro j h; omega
  | succ n ih =>
    intro j h hj
    have cr := cntf_r b o j
    rw [gm_92_21, if_pos (by omega)]
    by_cases q : j = 4
    · have i1 : ((g : Int) * 4).toNat = 4 * g := by omega
      rw [if_pos (by omega), if_pos (by omega), q, i1]
      by_cases y : cntf b o 4 = 0
      · rw [if_neg (fun x => x y), if_pos y]
      · rw [if_pos y, if_neg y]
        congr 1
        funext q6
        rw [if_pos (by omega)]
    · have ce : ((j : Int) + 1) = ((j + 1 : Nat) : Int) := rfl
      have i1 : ((j : Int)).toNat = j := by omega
      have i2 : (((g : Int) * 4) + (j : Int)).toNat = 4 * g + j := by omega
      have r1 := rb j (by omega)
      have r2 := ro j (by omega)
      rw [if_neg (by omega), if_pos (by omega), if_pos (by omega), i1, i2, hb j (by omega), ho j (by omega), if_pos (by omega), if_pos (by omega)]
      unfold gm_92_54
      rw [ce]
      have i := ih (j + 1) (by omega) (by omega)
      have e : cntf b o (j + 1) = cntf b o j + (if b j = o j then 0 else 1) := rfl
      rw [e] at i
      by_cases y : b j = o j
      · rw [if_pos y, Int.add_zero] at i
        rw [if_pos y]
        exact i
      · rw [if_neg y] at i
        rw [if_neg y]
        exact i
theorem sl_212_45 {s : gx_S} {g : Nat} {b o : Nat → Int} (hg : g < 3) (hb : ∀ l, l < 4 → s.1 244 l = b l) (ho : ∀ l, l < 4 → s.1 216 (32 + 4 * g + l) = o l) (rb : wB9 b) (ro : wB9 o) : ∀ (n j : Nat), 4 < n + j → j ≤ 4 → gm_212_45 n g (cntf b o j) j s = if cntf b o 4 = 0 then some (-2, s) else (gm_132 s).bind fun q6 => gm_212_102 100000 g (cntf b o 4) 0 q6 := by
  intro n
  induction n with
  | zero => intro j h; omega
  | succ n ih =>
    intro j h hj
    have cr := cntf_r b o j
    rw [gm_212_45, if_pos (by omega)]
    by_cases q : j = 4
    · rw [if_pos (by omega), if_pos (by omega), q]
      by_cases y : cntf b o 4 = 0
      · rw [if_neg (fun x => x y), if_pos y]
      · rw [if_pos y, if_neg y]
    · have ce : ((j : Int) + 1) = ((j + 1 : Nat) : Int) := rfl
      have i1 : ((j : Int)).toNat = j := by omega
      have i2 : ((32 + (4 * (g : Int))) + (j : Int)).toNat = 32 + 4 * g + j := by omega
      have r1 := rb j (by omega)
      have r2 := ro j (by omega)
      rw [if_neg (by omega), if_pos (by omega), if_pos (by omega), i1, i2, hb j (by omega), ho j (by omega), if_pos (by omega), if_pos (by omega)]
      unfold gm_212_78
      rw [ce]
      have i := ih (j + 1) (by omega) (by omega)
      have e : cntf b o (j + 1) = cntf b o j + (if b j = o j then 0 else 1) := rfl
      rw [e] at i
      by_cases y : b j = o j
      · rw [if_pos y] at i
        rw [if_pos y, sp_131 (.inl rfl), Option.bind_some]
        exact i
      · rw [if_neg y] at i
        rw [if_neg y, sp_131 (.inr rfl), Option.bind_some]
        exact i
theorem sl_212_102 {g : Nat} {x : Int} (hg : g < 3) : ∀ (n j : Nat) (t : gx_S), 4 < n + j → j ≤ 4 → ∃ u : gx_S, gm_212_102 n g x j t = some (x, u) ∧ u.2 = t.2 ∧ (∀ a i, a ≠ 216 → u.1 a i = t.1 a i) ∧ ∀ i, u.1 216 i = if 32 + 4 * g + j ≤ i ∧ i < 36 + 4 * g then t.1 244 (i - 32 - 4 * g) else t.1 216 i := by
  intro n
  induction n with
  | zero => intro j t h; omega
  | succ n ih =>
    intro j t h hj
    rw [gm_212_102, if_pos (by omega)]
    by_cases q : j = 4
    · rw [if_pos (by omega)]
      exact ⟨t, rfl, rfl, fun _ _ _ => rfl, fun i => by rw [if_neg (by omega)]⟩
    · have ce : ((j : Int) + 1) = ((j + 1 : Nat) : Int) := rfl
      have i1 : ((j : Int)).toNat = j := by omega
      have i2 : ((32 + (4 * (g : Int))) + (j : Int)).toNat = 32 + 4 * g + j := by omega
      rw [if_neg (by omega), if_pos (by omega), if_pos (by omega), i1, i2, ce]
      obtain ⟨u, u1, u2, u3, u4⟩ := ih (j + 1) (gw1 t 216 (32 + 4 * g + j) (t.1 244 j)) (by omega) (by omega)
      refine ⟨u, u1, u2, fun a i h => by rw [u3 a i h, gw1_1, if_neg (fun x => h x.1)], fun i => ?_⟩
      rw [u4, gw1_1 t 216 (32 + 4 * g + j) _ 244, if_neg (show ¬ ((244 : Nat) = 216 ∧ i - 32 - 4 * g = 32 + 4 * g + j) by omega), gw1_1]
      by_cases z : i = 32 + 4 * g + j
      · rw [if_neg (show ¬ (32 + 4 * g + (j + 1) ≤ i ∧ i < 36 + 4 * g) by omega), if_pos (show (216 : Nat) = 216 ∧ i = 32 + 4 * g + j from ⟨rfl, z⟩), if_pos (show 32 + 4 * g + j ≤ i ∧ i < 36 + 4 * g by omega), show i - 32 - 4 * g = j by omega]
      · rw [if_neg (show ¬ ((216 : Nat) = 216 ∧ i = 32 + 4 * g + j) from fun x => z x.2)]
        by_cases y : 32 + 4 * g + (j + 1) ≤ i ∧ i < 36 + 4 * g
        · rw [if_pos y, if_pos (show 32 + 4 * g + j ≤ i ∧ i < 36 + 4 * g by omega)]
        · rw [if_neg y, if_neg (show ¬ (32 + 4 * g + j ≤ i ∧ i < 36 + 4 * g) by omega)]
theorem LC_some {f : Nat → Int} {R C g : Nat} (M : MP f R C) (h7 : f 2 = 7) (hg : g < 3) (p : 0 < CP f R C g) : ∃ l, l < 4 ∧ 0 < LC (CL f R C) l := by
  refine Classical.byContradiction fun h => ?_
  have B := CL_XB M hg
  have x0 : ∀ z, z < 8 → ∀ l, l < 4 → CL f R C z l = 0 := fun z hz l hl => by
    have a := sg_at (f := fun z => CL f R C z l) (n := 8) (fun k hk => (B.1 k l hk hl).1) z hz
    have b := (B.1 z l hz hl).1
    have d : ¬ 0 < LC (CL f R C) l := fun q => h ⟨l, hl, q⟩
    unfold LC at d
    omega
  have l0 : ∀ z, z < 8 → L0 f R C g z = 0 := fun z hz => by
    have e := CL_NC (z := z) M h7
    rw [sg_0 (f := fun l => CL f R C z l) fun l hl => x0 z hz l hl] at e
    unfold L0
    rw [if_neg (by omega)]
  have e : CP f R C g = 0 := sg_0 l0
  omega
theorem inv_fit {s : gx_S} (h : INV s) {x : Int} (hx : i32 x) : two s (gm_92 x) (gm_212 x) := by
  obtain ⟨f, R, C, n, pf, L, tb, c, r, v⟩ := id h
  have hx' := hx
  unfold i32 at hx'
  have c148 : ∀ t : gx_S, gm_148 x t = _ := fun t => sp_148 t hx
  have c150 : ∀ t : gx_S, t.1 216 = f → gm_150 t = some (decide (f 2 = 7), t) := fun t et => by
    have := sp_150 (s := t) (by rw [et]; exact v.1.2.1)
    rw [et] at this
    exact this
  obtain ⟨c21, c21'⟩ := sp_121 c.1 v.1 hx
  have s2 : ∀ t : gx_S, t.1 216 = f → gm_212 x t = if (0 ≤ x ∧ x < 3) ∧ f 2 = 7 then ((gm_205 x t).bind fun q45 => if (-2147483648 ≤ (q45.1 215 42) ∧ (q45.1 215 42) ≤ 2147483647) then (if ¬ (q45.1 215 42) = 0 then ((gm_211 x 0 (gw1 q45 215 43 0)).bind fun q49 => gm_212_45 100000 x 0 0 q49) else some ((-1), q45)) else none) else some (-1, t) := fun t et => by
    unfold gm_212
    rw [c150 t et, Option.bind_some]
    by_cases b : f 2 = 7
    · rw [if_neg (fun q => (gbD t).mp q b)]
      show ((gm_148 x t).bind _) = _
      rw [c148 t, Option.bind_some]
      by_cases a : 0 ≤ x ∧ x ≤ 2
      · rw [if_pos (fun q => (gbD t).mp q a), if_pos (show (0 ≤ x ∧ x < 3) ∧ f 2 = 7 from ⟨by omega, b⟩)]
      · rw [if_neg (fun q => q ((gbD t).mpr a)), if_neg (fun q : (0 ≤ x ∧ x < 3) ∧ f 2 = 7 => a (by have := q.1; omega))]
    · rw [if_pos ((gbD t).mpr b), if_neg (fun q : (0 ≤ x ∧ x < 3) ∧ f 2 = 7 => b q.2)]
  unfold two
  by_cases ok : (0 ≤ x ∧ x < 3) ∧ f 2 = 7
  · obtain ⟨a, h7⟩ := id ok
    obtain ⟨g, rfl⟩ : ∃ g : Nat, x = g := ⟨x.toNat, by omega⟩
    have hg : g < 3 := by omega
    have B := CL_XB v.1 hg
    have W := W0_b v.1 hg
    obtain ⟨u, u1, u2, u3, u4, u5⟩ := c21' g rfl hg h7
    -- the reference ahead of its search
    have kr : ∀ w : gx_S, w.1 216 = f → ∃ z : gx_S, KRw w z ∧ z.1 216 = f ∧ gm_212 g w = (if ¬ CP f R C g = 0 then ((gm_211 g 0 (gw1 z 215 43 0)).bind fun q49 => gm_212_45 100000 g 0 0 q49) else some (-1, z)) ∧ RSw z (CL f R C) (W0 f g) ∧ z.1 215 42 = CP f R C g := fun w ew => by
      obtain ⟨z, z1, z2, z3, z4, z5⟩ := sp_205 ew v.1 h7 hg
      refine ⟨z, KRw_of4 (fun k j q1 q2 _ q3 => z5 k j q1 q2 (by omega)) (fun k j _ => by rw [z4]), by funext i; rw [z5 _ _ (by decide) (by decide) (by omega), ew], ?_, z2, z3⟩
      rw [s2 w ew, if_pos ok, z1, Option.bind_some, z3, if_pos (by have := B.2.2; omega)]
    have e92 : gm_92 g s = if ¬ gb (decide (0 < CP f R C g)) = 0 then ((gm_15 u).bind fun q28 => gm_92_21 100000 g 0 0 q28) else some (-1, u) := by
      unfold gm_92
      rw [u1, Option.bind_some]
    have ku : ∀ a i, ¬ (62 ≤ a ∧ a ≤ 68) → u.1 a i = s.1 a i := fun a i q => u4 a i (by omega)
    by_cases p0 : 0 < CP f R C g
    · obtain ⟨w, w1, w2, w3⟩ := sp_15 B W u2 u3
      obtain ⟨l, hl, hL⟩ := LC_some v.1 h7 hg p0
      obtain ⟨i, hi⟩ := BI_some (c := Cc f g) (P := CP f R C g) B W hl hL
      obtain ⟨_, _, best⟩ := w2.2 i hi
      have rb := RE_B (CL f R C) W i
      obtain ⟨b, hb⟩ : ∃ b, b = RE (CL f R C) (W0 f g) i := ⟨_, rfl⟩
      rw [← hb] at best rb
      have kw1 : ∀ a i, ¬ (62 ≤ a ∧ a ≤ 68) → w.1 a i = s.1 a i := fun a i q => (w3.1 a i (by omega) (by omega) (by omega)).trans (ku a i q)
      have kw2 : ∀ a i, a ≠ 62 → w.2 a i = s.2 a i := fun a i q => (w3.2 a i (by omega)).trans (u5 a i q)
      have cw := CV_fit kw1 c
      have kc := KC_fit kw1 kw2
      have rw' := RV_KC kc r
      have e4 : ∀ l, l < 4 → w.1 4 (4 * g + l) = W0 f g l := fun l hl => by
        rw [kw1 _ _ (by omega)]
        have := c.1.2.2.2.2.2.2.1 (4 * g + l) (by omega)
        rw [show (1 : Nat) + 3 = 4 from rfl] at this
        rw [this]
        unfold W0
        rw [Nat.add_assoc]
      have s1 := sl_92 (s := w) hg best e4 rb W 100000 0 (by omega) (by omega)
      have s1 : gm_92_21 100000 g 0 0 w = _ := s1
      rw [if_pos (fun q => (gbD s).mp q p0), w1, Option.bind_some, s1] at e92
      -- the reference's search
      have kr2 : ∀ y : gx_S, y.1 216 = f → ∃ t : gx_S, KRw y t ∧ t.1 216 = f ∧ (∀ l, l < 4 → t.1 244 l = b l) ∧ gm_212 g y = if cntf b (W0 f g) 4 = 0 then some (-2, t) else (gm_132 t).bind fun q6 => gm_212_102 100000 g (cntf b (W0 f g) 4) 0 q6 := fun y ey => by
        obtain ⟨z, z1, z2, z3, z4, z5⟩ := kr y ey
        obtain ⟨a, ha⟩ : ∃ a, a = gw1 z 215 43 0 := ⟨_, rfl⟩
        have a1 : ∀ d j, ¬ (d = 215 ∧ j = 43) → a.1 d j = z.1 d j := fun d j q => by rw [ha, gw1_1, if_neg q]
        have a2 : a.2 = z.2 := by rw [ha]; rfl
        have a216 : a.1 216 = f := by funext j; rw [a1 _ _ (by omega), z2]
        obtain ⟨t, t1, t2, t3⟩ := sp_211 (t := a) (o := W0 f g) (c := Cc f g) B W hg ⟨fun q l hq hl => by rw [a1 _ _ (by omega)]; exact z4.1 q l hq hl, by rw [a1 _ _ (by omega)]; exact z5, fun q hq => by rw [a216]; rfl, fun l hl _ => by rw [a1 _ _ (by omega)]; exact z4.2 l hl⟩ (by rw [ha, gw1_1, if_pos ⟨rfl, rfl⟩])
        have ka : KRw z a := KRw_of4 (fun k j _ _ _ q => a1 k j (by omega)) fun k j _ => by rw [a2]
        have kt : KRw a t := KRw_of4 (fun k j _ q1 q2 q3 => t3.1 k j q1 q2 (by omega)) fun k j q => t3.2 k j (fun x => q x.1)
        have et : t.1 216 = f := (KRw_216 kt).trans a216
        have e244 : ∀ l, l < 4 → t.1 244 l = b l := by rw [hb]; exact (t2.2 i hi).2.2.2
        refine ⟨t, KRw_tr z1 (KRw_tr ka kt), et, e244, ?_⟩
        have l45 := sl_212_45 (s := t) hg e244 (fun l hl => by rw [et]; rfl) rb W 100000 0 (by omega) (by omega)
        have l45 : gm_212_45 100000 g 0 0 t = _ := l45
        rw [z3, if_pos (by omega), ← ha, t1, Option.bind_some, l45]
      by_cases c0 : cntf b (W0 f g) 4 = 0
      · obtain ⟨t, t1, t2, t3, t4⟩ := kr2 w rw'.1
        rw [if_pos c0] at e92 t4
        exact ⟨-2, w, t, e92, t4, q_inv kc cw r v t1⟩
      · obtain ⟨d, d1, d2, d3, d4, d5⟩ := act_pre2 cw rw' v
        obtain ⟨y, hy⟩ : ∃ y, y = gcp d 63 0 4 (4 * g) 4 := ⟨_, rfl⟩
        have y1 : ∀ k j, 6 ≤ k → y.1 k j = d.1 k j := fun k j q => by rw [hy, gcp_1, if_neg (by omega)]
        have y2 : y.2 = d.2 := by rw [hy]; rfl
        have y3 : y.1 216 = f := by funext j; rw [y1 _ _ (by omega), d3]
        have d63 : ∀ l, l < 4 → d.1 63 l = b l := fun l hl => by rw [d4 _ _ (by omega) (by omega)]; exact best l hl
        have my : MR y 1 (ff f g b) R C := by rw [hy]; exact MR_ff d2 hg d63
        obtain ⟨t, t1, t2, t3, t4⟩ := kr2 y y3
        obtain ⟨sy, _, q, q1, q2, q3, q4⟩ := d5 y t y1 y2 t1
        obtain ⟨p, p1, p2, p3, p4⟩ := sl_212_102 (g := g) (x := cntf b (W0 f g) 4) hg 100000 0 q (by omega) (by omega)
        have p1 : gm_212_102 100000 g (cntf b (W0 f g) 4) 0 q = _ := p1
        rw [if_neg c0, d1, Option.bind_some, ← hy] at e92
        rw [if_neg c0, q1, Option.bind_some, p1] at t4
        refine ⟨_, y, p, e92, t4, q4 p (ff f g b) R C p3 p2 (MP_ff v.1 hg rb) my fun j hj => ?_⟩
        rw [p4, q2]
        unfold ff
        by_cases z : 32 + 4 * g ≤ j ∧ j < 36 + 4 * g
        · rw [if_pos (by omega), if_pos z, q3 244 _ (by decide) (by omega)]
          exact t3 _ (by omega)
        · rw [if_neg (by omega), if_neg z]
    · have pn : CP f R C g = 0 := by have := B.2.2; omega
      rw [if_neg (fun q => q ((gbD s).mpr p0))] at e92
      obtain ⟨z, z1, z2, z3, z4, z5⟩ := kr u (by funext j; rw [ku _ _ (by omega), r.1])
      rw [if_neg (fun q => q pn)] at z3
      exact ⟨-1, u, z, e92, z3, q_inv (KC_fit ku u5) (CV_fit ku c) r v z1⟩
  · refine ⟨-1, s, s, ?_, (s2 s r.1).trans (if_neg ok), h⟩
    unfold gm_92
    rw [c21 ok, Option.bind_some, if_neg (fun q => q rfl)]
end
section
/-! DOUBLES THAT ARE NO NaN: what the queries compute with; Bits.of answers -/
theorem d6 {x : UInt64} (h : Jvm.Free.Fl.NoNaN64 x) : id_n6 x = true := decide_eq_true h
theorem d3 {x : UInt32} (h : Jvm.Free.Fl.NoNaN32 x) : id_n3 x = true := decide_eq_true h
theorem d_q {a b : Int32} (hb : ¬ b = 0) : Jvm.Free.Fl.Mag64 1095 (FP.ddiv (FP.i2d a) (FP.i2d b)) := by
  have hz : b.toInt ≠ 0 := fun h => hb (Int32.toInt_inj.mp (h.trans Int32.toInt_zero.symm))
  have h2 := Jvm.FP.Core.i2d_big hz
  have h1 := Jvm.FP.Core.ddiv_mag (K := 1056) (L := 1023) (Jvm.FP.Core.i2d_mag a) h2.1 h2.2 (by decide) (by decide)
  exact Nat.lt_of_lt_of_le h1 (by decide)
theorem d_l {a : Int64} {b : Int32} (hb : ¬ b = 0) : Jvm.Free.Fl.Mag64 1095 (FP.ddiv (FP.l2d a) (FP.i2d b)) := by
  have hz : b.toInt ≠ 0 := fun h => hb (Int32.toInt_inj.mp (h.trans Int32.toInt_zero.symm))
  have h2 := Jvm.FP.Core.i2d_big hz
  have h1 := Jvm.FP.Core.ddiv_mag (K := 1088) (L := 1023) (Jvm.FP.Core.l2d_mag a) h2.1 h2.2 (by decide) (by decide)
  exact Nat.lt_of_lt_of_le h1 (by decide)
theorem d_two : Jvm.Free.Fl.Fin64 4611686018427387904 ∧ Jvm.Free.Fl.Nz64 4611686018427387904 := by unfold Jvm.Free.Fl.Fin64 Jvm.Free.Fl.Nz64; decide
theorem d_half : Jvm.Free.Fl.Fin64 4602678819172646912 ∧ Jvm.Free.Fl.Nz64 4602678819172646912 := by unfold Jvm.Free.Fl.Fin64 Jvm.Free.Fl.Nz64; decide
theorem d_one : Jvm.Free.Fl.Fin64 FP.dconst1 ∧ Jvm.Free.Fl.Nz64 FP.dconst1 := by unfold Jvm.Free.Fl.Fin64 Jvm.Free.Fl.Nz64 FP.dconst1; decide
theorem d_abs {K : Nat} {x : UInt64} (h : Jvm.Free.Fl.Mag64 K x) : Jvm.Free.Fl.Mag64 K (x &&& 0x7fffffffffffffff) := by
  unfold Jvm.Free.Fl.Mag64 at h ⊢
  rw [Jvm.Free.Fl.abs_toNat]
  omega
theorem d_0 : Jvm.Free.Fl.Mag64 1100 FP.dconst0 := by unfold Jvm.Free.Fl.Mag64 FP.dconst0; decide
theorem sp_2_64 {x2 x3 x6 : Int} {x4 : UInt64} (s : gx_S) (h4 : Jvm.Free.Fl.NoNaN64 x4) (hx : -2147483648 ≤ x6 + x2 ∧ x6 + x2 ≤ 2147483647) (hz : ¬ Int64.ofInt (((Int64.ofInt 1 <<< ((Int32.ofInt x3).toInt64 &&& 63))).toInt) = 0) : ∃ r : Int, gm_2_64 x2 x3 x4 x6 s = some (r, s) := by
  have hf := Jvm.Free.Fl.l2d_fin (Int64.ofInt (((Int64.ofInt 1 <<< ((Int32.ofInt x3).toInt64 &&& 63))).toInt))
  have hn := Jvm.Free.Fl.l2d_nz hz
  unfold gm_2_64
  by_cases q : 0 ≤ (Op.cmpValue (FP.dcmp x4 FP.dconst1) .g).toInt
  · rw [if_pos q, if_pos hx, if_pos (d6 (Jvm.Free.Fl.dsub_out h4 d_one.1)), if_pos (d6 (Jvm.Free.Fl.dmul_outNz (Jvm.Free.Fl.dsub_out h4 d_one.1) hf hn))]
    exact ⟨_, rfl⟩
  · rw [if_neg q, if_pos (d6 (Jvm.Free.Fl.dmul_outNz h4 hf hn))]
    exact ⟨_, rfl⟩
theorem sl_2_35 {x2 x3 : Int} (s : gx_S) (h2 : 1 ≤ x2 ∧ x2 ≤ 2000) (hz : ¬ Int64.ofInt (((Int64.ofInt 1 <<< ((Int32.ofInt x3).toInt64 &&& 63))).toInt) = 0) : ∀ (n : Nat) (x4 : UInt64) (x6 : Int), Jvm.Free.Fl.NoNaN64 x4 → 1 - x2 ≤ x6 → x6 ≤ x2 → x6 + x2 < n → ∃ r : Int, gm_2_35 n x2 x3 x4 x6 s = some (r, s) := by
  intro n
  induction n with
  | zero => intro x4 x6 _ _ _ h; omega
  | succ n ih =>
    intro x4 x6 h4 h5 h6 h
    rw [gm_2_35]
    by_cases q : 0 ≤ (Op.cmpValue (FP.dcmp x4 FP.dconst1) .g).toInt
    · rw [if_pos q]
      exact sp_2_64 s h4 (by omega) hz
    · rw [if_neg q, if_pos (by omega), if_pos (by omega)]
      by_cases y : x6 ≤ 1 - x2
      · rw [if_pos y]
        exact sp_2_64 s h4 (by omega) hz
      · rw [if_neg y, if_pos (d6 (Jvm.Free.Fl.dmul_outNz h4 d_two.1 d_two.2))]
        exact ih _ _ (Jvm.Free.Fl.dmul_outNz h4 d_two.1 d_two.2) (by omega) (by omega) (by omega)
theorem sl_2_6 {x2 x3 : Int} (s : gx_S) (h2 : 1 ≤ x2 ∧ x2 ≤ 2000) (hz : ¬ Int64.ofInt (((Int64.ofInt 1 <<< ((Int32.ofInt x3).toInt64 &&& 63))).toInt) = 0) : ∀ (n : Nat) (x4 : UInt64) (x6 : Int), Jvm.Free.Fl.NoNaN64 x4 → 0 ≤ x6 → x6 ≤ x2 → x2 - x6 < n → ∃ r : Int, gm_2_6 n x2 x3 x4 x6 s = some (r, s) := by
  intro n
  induction n with
  | zero => intro x4 x6 _ _ _ h; omega
  | succ n ih =>
    intro x4 x6 h4 h5 h6 h
    rw [gm_2_6]
    by_cases q : (Op.cmpValue (FP.dcmp x4 (4611686018427387904 : UInt64)) .l).toInt < 0
    · rw [if_pos q]
      exact sl_2_35 s h2 hz 100000 x4 x6 h4 (by omega) (by omega) (by omega)
    · rw [if_neg q, if_pos (by omega), if_pos (by omega)]
      by_cases y : x2 ≤ x6
      · rw [if_pos y]
        exact sl_2_35 s h2 hz 100000 x4 x6 h4 (by omega) (by omega) (by omega)
      · rw [if_neg y, if_pos (d6 (Jvm.Free.Fl.ddiv_out h4 d_two.1 d_two.2))]
        exact ih _ _ (Jvm.Free.Fl.ddiv_out h4 d_two.1 d_two.2) (by omega) (by omega) (by omega)
theorem sp_0 {x : UInt64} (s : gx_S) (h : Jvm.Free.Fl.NoNaN64 x) : ∃ r : Int, gm_0 x s = some (r, s) := by
  obtain ⟨r, e⟩ := sl_2_6 (x2 := 1023) (x3 := 52) s (by decide) (by decide +kernel) 100000 x 0 h (by decide) (by decide) (by decide)
  unfold gm_0 gm_2
  exact ⟨r, gb_bind e rfl⟩
theorem sp_1 {x : UInt32} (s : gx_S) (h : Jvm.Free.Fl.NoNaN32 x) : ∃ r : Int, gm_1 x s = some (r, s) := by
  have h2 := Jvm.Free.Fl.f2d_out h
  obtain ⟨r, e⟩ := sl_2_6 (x2 := 127) (x3 := 23) s (by decide) (by decide +kernel) 100000 (FP.f2d x) 0 h2 (by decide) (by decide) (by decide)
  unfold gm_1 gm_2
  rw [if_pos (d6 h2)]
  exact ⟨r, gb_bind e rfl⟩
end
section
/-! QUERIES: dense (both answer; that the answers are alike is for later) -/
theorem i_nz {x : Int} (h : 0 < x) (h2 : x ≤ 2147483647) : ¬ Int32.ofInt x = 0 := fun q => by
  have e := congrArg Int32.toInt q
  rw [ga_ti (by omega), Int32.toInt_zero] at e
  omega
theorem NC_96 {f : Nat → Int} {R C : Nat} (M : MP f R C) (l : Nat) (z : Int) : 0 ≤ NC f R C l z ∧ NC f R C l z ≤ 96 := by
  have h := NC_nn f R C l z
  have h2 := RC_96 M.1.2.2.1 M.1.2.2.2
  refine ⟨h.1, Int.le_trans h.2 ?_⟩
  have : ((R * C : Nat) : Int) ≤ 96 := by omega
  simpa using this
theorem ref_dense {s : gx_S} {R C : Nat} {x y z : Int} (M : MP (s.1 216) R C) (S : SC s) (hx : i32 x) (hy : i32 y) (hz : i32 z) : ∃ (r : Int) (w : gx_S), gm_203 x y z s = some (r, w) ∧ KRw s w := by
  have hy' := hy
  have hz' := hz
  unfold i32 at hy' hz'
  unfold gm_203
  rw [sp_150 M.2.1, Option.bind_some]
  by_cases h7 : s.1 216 2 = 7
  · rw [if_neg (fun q => (gbD s).mp q h7)]
    dsimp only
    rw [sp_148 s hx, Option.bind_some]
    by_cases a : 0 ≤ x ∧ x ≤ 2
    · rw [if_neg (fun q => (gbD s).mp q a), if_pos hy']
      dsimp only
      rw [in_ s hy (by omega) (by omega), Option.bind_some]
      by_cases b : 0 ≤ y ∧ y ≤ 7
      · rw [if_neg (fun q => (gbD s).mp q b)]
        dsimp only
        have c153 : gm_153 1 y s = _ := sp_153g M 1 y (by omega) hy'
        rw [c153, Option.bind_some]
        by_cases d : 0 < NC (s.1 216) R C 1 y
        · rw [if_neg (fun q => (gbD s).mp q d), if_pos hz']
          dsimp only
          rw [in_ s hz (by omega) (by omega), Option.bind_some]
          by_cases e : 0 ≤ z ∧ z ≤ 3
          · rw [if_pos (fun q => (gbD s).mp q e)]
            dsimp only
            obtain ⟨g, rfl⟩ : ∃ g : Nat, x = g := ⟨x.toNat, by omega⟩
            obtain ⟨y, rfl⟩ : ∃ y' : Nat, y = y' := ⟨y.toNat, by omega⟩
            obtain ⟨u, w, k1, k2, k3, k4, k5, k6, k7⟩ := sp_181f M h7 (show g < 3 by omega) S
            rw [k1, Option.bind_some, k2, Option.bind_some, sp_183 (R := 8) k5 (by omega) (show y < 9 by omega), Option.bind_some]
            dsimp only
            have ew := KR_216 k4
            have T : TT (s.1 216) := by
              unfold TT
              rw [h7]
              decide
            rw [sp_202 ew M T hy, Option.bind_some]
            dsimp only
            have nc := NC_96 M 1 (y : Int)
            have hm := d_q (a := Int32.ofInt (sg (fun x => w.2 224 (9 * x + y)) 8)) (i_nz d (by omega))
            generalize FP.ddiv (FP.i2d (Int32.ofInt (sg (fun x => w.2 224 (9 * x + y)) 8))) (FP.i2d (Int32.ofInt (NC (s.1 216) R C 1 (y : Int)))) = v at hm ⊢
            have hf := hm.fin (by decide)
            have hn := hf.noNaN
            rw [if_pos (d6 hn)]
            by_cases z0 : z = 0
            · rw [if_pos z0]
              exact ⟨_, _, rfl, KR_w k4⟩
            · rw [if_neg z0]
              by_cases z1 : z = 1
              · rw [if_pos z1, if_pos (d3 (Jvm.Free.Fl.d2f_out hn))]
                exact ⟨_, _, rfl, KR_w k4⟩
              · rw [if_neg z1]
                by_cases z2 : z = 2
                · rw [if_pos z2, if_pos (d6 (Jvm.Free.Fl.drem_out hf d_one.1.noNaN d_one.2))]
                  exact ⟨_, _, rfl, KR_w k4⟩
                · rw [if_neg z2, if_pos (d6 (Jvm.Free.Fl.ddiv_out hn d_half.1 d_half.2))]
                  exact ⟨_, _, rfl, KR_w k4⟩
          · rw [if_neg (fun q => q ((gbD s).mpr e))]
            exact ⟨_, s, rfl, KRw_rf s⟩
        · rw [if_pos ((gbD s).mpr d)]
          exact ⟨_, s, rfl, KRw_rf s⟩
      · rw [if_pos ((gbD s).mpr b)]
        exact ⟨_, s, rfl, KRw_rf s⟩
    · rw [if_pos ((gbD s).mpr a)]
      exact ⟨_, s, rfl, KRw_rf s⟩
  · rw [if_pos ((gbD s).mpr h7)]
    exact ⟨_, s, rfl, KRw_rf s⟩
theorem cls_dense {s : gx_S} {f : Nat → Int} {R C n L : Nat} {pf : Nat → Nat → Int} {tb : Nat → Int} {x y z : Int} (c : CV s f R C n pf L tb) (M : MP f R C) (hx : i32 x) (hy : i32 y) (hz : i32 z) : ∃ (r : Int) (u : gx_S), gm_108 x y z s = some (r, u) ∧ KC s u ∧ CV u f R C n pf L tb := by
  have hy' := hy
  have hz' := hz
  unfold i32 at hy' hz'
  have e6 : s.1 1 6 = f 2 := c.1.2.2.1
  have c57 := sp_57 (s := s) (a := 1) (by decide +kernel) (by rw [e6]; exact M.2.1)
  rw [e6] at c57
  unfold gm_108
  rw [sp_114 s hx, Option.bind_some]
  by_cases a : 0 ≤ x ∧ x < 3
  · rw [if_neg (fun q => (gbD s).mp q a)]
    dsimp only
    rw [sp_115 s hy, Option.bind_some]
    by_cases b : 0 ≤ y ∧ y < 8
    · rw [if_neg (fun q => (gbD s).mp q b)]
      dsimp only
      rw [c57, Option.bind_some]
      by_cases h7 : f 2 = 7
      · rw [if_neg (fun q => (gbD s).mp q h7), if_pos hz']
        dsimp only
        by_cases z0 : z < 0
        · rw [if_pos z0]
          exact ⟨_, s, rfl, KC_rf s, c⟩
        · rw [if_neg z0]
          by_cases z3 : z ≤ 3
          · have nc := NC_96 M 1 y
            have c62 : gm_62 1 1 y s = _ := sp_62g c.1 M 1 y (by omega) hy'
            rw [if_pos z3, c62, Option.bind_some]
            dsimp only
            rw [if_pos (by omega)]
            by_cases d : NC f R C 1 y = 0
            · rw [if_neg (fun q => q d)]
              exact ⟨_, s, rfl, KC_rf s, c⟩
            · rw [if_pos d, if_pos a, Option.bind_some]
              obtain ⟨g, rfl⟩ : ∃ g : Nat, x = g := ⟨x.toNat, by omega⟩
              obtain ⟨y, rfl⟩ : ∃ y' : Nat, y = y' := ⟨y.toNat, by omega⟩
              have hg : g < 3 := by omega
              obtain ⟨D, u, u1, u2, u3, u4, u5, u6⟩ := CV_ready (w := 2) (by omega) M h7 hg c
              have u1 : gm_19 (71 + 48 * g) 2 s = some u := u1
              have kc : KC s u := KG_KC (ga_of hg) u3
              rw [vg_ g hg, u1, Option.bind_some, sp_76 (ga_of hg).2.2.2.1 (show y < 9 by omega), Option.bind_some]
              dsimp only
              have hm := d_q (a := Int32.ofInt (sg (fun x => u.1 (71 + 48 * g + 3 + 8) (9 * x + y)) 8)) (i_nz (show 0 < NC f R C 1 (y : Int) by omega) (by omega))
              generalize FP.ddiv (FP.i2d (Int32.ofInt (sg (fun x => u.1 (71 + 48 * g + 3 + 8) (9 * x + y)) 8))) (FP.i2d (Int32.ofInt (NC f R C 1 (y : Int)))) = v at hm ⊢
              have hf := hm.fin (by decide)
              have hn := hf.noNaN
              rw [if_pos (d6 hn)]
              by_cases z0 : z = 0
              · obtain ⟨q, e⟩ := sp_0 u hn
                rw [if_pos z0, e, Option.bind_some]
                exact ⟨_, u, rfl, kc, u2⟩
              · rw [if_neg z0]
                by_cases z1 : z = 1
                · obtain ⟨q, e⟩ := sp_1 u (Jvm.Free.Fl.d2f_out hn)
                  rw [if_pos z1, if_pos (d3 (Jvm.Free.Fl.d2f_out hn)), e, Option.bind_some]
                  exact ⟨_, u, rfl, kc, u2⟩
                · rw [if_neg z1]
                  by_cases z2 : z = 2
                  · have hs := Jvm.Free.Fl.dsub_out hn (Jvm.Free.Fl.l2d_fin (Int64.ofInt ((FP.d2l v).toInt)))
                    obtain ⟨q, e⟩ := sp_0 u hs
                    rw [if_pos z2, if_pos (d6 hs), e, Option.bind_some]
                    exact ⟨_, u, rfl, kc, u2⟩
                  · rw [if_neg z2, if_pos (d6 (Jvm.Free.Fl.ddiv_out hn d_half.1 d_half.2))]
                    exact ⟨_, u, rfl, kc, u2⟩
          · rw [if_neg z3]
            exact ⟨_, s, rfl, KC_rf s, c⟩
      · rw [if_pos ((gbD s).mpr h7)]
        exact ⟨_, s, rfl, KC_rf s, c⟩
    · rw [if_pos ((gbD s).mpr b)]
      exact ⟨_, s, rfl, KC_rf s, c⟩
  · rw [if_pos ((gbD s).mpr a)]
    exact ⟨_, s, rfl, KC_rf s, c⟩
theorem inv_denseW {s : gx_S} (h : INV s) {x y z : Int} (hx : i32 x) (hy : i32 y) (hz : i32 z) : twW s (gm_108 x y z) (gm_203 x y z) := by
  obtain ⟨f, R, C, n, pf, L, tb, c, r, v⟩ := id h
  obtain ⟨a, u, h1, kc, cu⟩ := cls_dense c v.1 hx hy hz
  have ru := RV_KC kc r
  have eu : u.1 216 = f := ru.1
  obtain ⟨b, w, h2, kw⟩ := ref_dense (s := u) (R := R) (C := C) (by rw [eu]; exact v.1) ru.2.2.2.2 hx hy hz
  exact ⟨a, b, u, w, h1, h2, q_inv kc cu r v kw⟩
end
section
/-! QUERIES: off (both answer; that the answers are alike is for later) -/
theorem sp_80e {u : gx_S} {f : Nat → Int} {R C g t i : Nat} (M : MP f R C) (h7 : f 2 = 7) (hg : g < 3) (ht : fx_oc t 7 = true) (V : TM u t f R C g) (hi : i < 72) : ∃ q : Int, gm_80 t i u = some (q, u) := by
  have v1 := V.1 (i / 9) (by omega)
  have v2 := v1.2.2 (i % 9) (by omega)
  have e9 : 9 * (i / 9) + i % 9 = i := by omega
  rw [e9] at v2
  have g1 := (GV_r M h7 hg).1 (i / 9) (i % 9) (by omega) (by omega)
  have g2 := (GV_r M h7 hg).2.1
  have l0 := (LV_r M hg).1
  have g3 : LV f R C g (i / 9) ≤ 89991 := Int.le_trans (sg_at (f := LV f R C g) (n := 8) (fun k hk => l0 k hk) (i / 9) (show i / 9 < 8 by omega)) g2
  have r1 := l0 (i / 9) (by omega)
  have r2 := SO_r M h7 hg ((i / 9 : Nat) : Int) (-1) (decide (SO f R C g ((i / 9 : Nat) : Int) (-1) false = 0))
  have e2 : u.1 (t + 2) (i / 9) = SO f R C g ((i / 9 : Nat) : Int) (-1) (decide (SO f R C g ((i / 9 : Nat) : Int) (-1) false = 0)) := by
    rw [v1.2.1]
    exact SO_row M h7 _ _
  have r3 : 0 ≤ u.1 (t + 4) i ∧ u.1 (t + 4) i ≤ 864 := by
    rw [v2.1]
    exact SO_r M h7 hg _ _ _
  have e8 : u.1 (t + 8) i = GV f R C g (i / 9) (i % 9) := v2.2.2.2
  have e1 : u.1 (t + 1) (i / 9) = LV f R C g (i / 9) := v1.1
  have c9 : ((i : Int) / 9).toNat = i / 9 := by omega
  have ci : ((i : Int)).toNat = i := by omega
  unfold gm_80
  rw [if_pos ht, if_pos (by omega), if_pos (by omega), ci, c9, e8, e2, e1]
  generalize u.1 (t + 4) i = A at r3 ⊢
  generalize GV f R C g (i / 9) (i % 9) = G at g1 ⊢
  generalize LV f R C g (i / 9) = P at g1 g3 r1 ⊢
  generalize SO f R C g ((i / 9 : Nat) : Int) (-1) (decide (SO f R C g ((i / 9 : Nat) : Int) (-1) false = 0)) = W at r2 ⊢
  have m1 := Int.mul_nonneg g1.1 r2.1
  have m2 := Int.mul_le_mul (show G ≤ 89991 by omega) r2.2 r2.1 (by omega)
  have m3 := Int.mul_nonneg r1 r3.1
  have m4 := Int.mul_le_mul g3 r3.2 r3.1 (by omega)
  rw [if_pos (by omega), if_pos (by omega), if_pos (by omega), if_pos (by omega), if_pos (by omega), if_pos (by omega)]
  exact ⟨_, rfl⟩
theorem sl_109_39 {u : gx_S} {f : Nat → Int} {R C g v : Nat} (M : MP f R C) (h7 : f 2 = 7) (hg : g < 3) (ht : fx_oc (v + 3) 7 = true) (V : TM u (v + 3) f R C g) : ∀ (n k : Nat) (x : UInt64), 72 < n + k → k ≤ 72 → Jvm.Free.Fl.Mag64 (1100 + 2 * k) x → ∃ q : Int, gm_109_39 n v x k u = some (q, u) := by
  intro n
  induction n with
  | zero => intro k x h; omega
  | succ n ih =>
    intro k x h hk hx
    have hn := (hx.fin (by omega)).noNaN
    rw [gm_109_39, if_pos (by omega)]
    by_cases z : k = 72
    · obtain ⟨q, e⟩ := sp_0 u hn
      rw [if_pos (by omega), e, Option.bind_some]
      exact ⟨_, rfl⟩
    · have r2 := SO_r M h7 hg ((k / 9 : Nat) : Int) (-1) (decide (SO f R C g ((k / 9 : Nat) : Int) (-1) false = 0))
      have e2 : u.1 (v + 3 + 2) (k / 9) = SO f R C g ((k / 9 : Nat) : Int) (-1) (decide (SO f R C g ((k / 9 : Nat) : Int) (-1) false = 0)) := by
        rw [(V.1 (k / 9) (by omega)).2.1]
        exact SO_row M h7 _ _
      have c9 : ((k : Int) / 9).toNat = k / 9 := by omega
      have ce : ((k : Int) + 1) = ((k + 1 : Nat) : Int) := rfl
      rw [if_neg (by omega), if_pos (by omega), if_pos (by omega), c9, e2]
      generalize SO f R C g ((k / 9 : Nat) : Int) (-1) (decide (SO f R C g ((k / 9 : Nat) : Int) (-1) false = 0)) = W at r2 ⊢
      rw [if_pos (by omega)]
      by_cases y : W ≤ 0
      · rw [if_pos y]
        unfold gm_109_83
        rw [ce]
        exact ih (k + 1) x (by omega) (by omega) (hx.mono (by omega))
      · obtain ⟨q, e⟩ := sp_80e M h7 hg ht V (show k < 72 by omega)
        have hq := d_l (a := Int64.ofInt q) (i_nz (show 0 < W by omega) (by omega))
        have hs := Jvm.Free.Fl.dadd_mag hx (hq.mono (show 1095 ≤ 1100 + 2 * k by omega)) (by omega)
        rw [if_neg y, e, Option.bind_some]
        dsimp only
        rw [if_pos (d6 (hq.fin (by decide)).noNaN), if_pos (d6 (hs.fin (by omega)).noNaN)]
        unfold gm_109_83
        rw [ce]
        exact ih (k + 1) _ (by omega) (by omega) (hs.mono (by omega))
theorem cls_off {s : gx_S} {f : Nat → Int} {R C n L : Nat} {pf : Nat → Nat → Int} {tb : Nat → Int} {x : Int} (c : CV s f R C n pf L tb) (M : MP f R C) (hx : i32 x) : ∃ (r : Int) (u : gx_S), gm_109 x s = some (r, u) ∧ KC s u ∧ CV u f R C n pf L tb := by
  have e6 : s.1 1 6 = f 2 := c.1.2.2.1
  have c57 := sp_57 (s := s) (a := 1) (by decide +kernel) (by rw [e6]; exact M.2.1)
  rw [e6] at c57
  unfold gm_109
  rw [sp_114 s hx, Option.bind_some]
  by_cases a : 0 ≤ x ∧ x < 3
  · rw [if_neg (fun q => (gbD s).mp q a)]
    dsimp only
    rw [c57, Option.bind_some]
    by_cases h7 : f 2 = 7
    · rw [if_pos (fun q => (gbD s).mp q h7)]
      dsimp only
      obtain ⟨g, rfl⟩ : ∃ g : Nat, x = g := ⟨x.toNat, by omega⟩
      have hg : g < 3 := by omega
      obtain ⟨D, u, u1, u2, u3, u4, u5, u6⟩ := CV_ready (w := 2) (by omega) M h7 hg c
      have u1 : gm_19 (71 + 48 * g) 2 s = some u := u1
      have tm := (u4.2.2.2.2.1 u5).2
      have kc : KC s u := KG_KC (ga_of hg) u3
      rw [if_pos a, Option.bind_some, vg_ g hg, u1, Option.bind_some]
      obtain ⟨q, e⟩ := sl_109_39 M h7 hg (ga_of hg).2.2.2.1 tm 100000 0 FP.dconst0 (by omega) (by omega) d_0
      have e : gm_109_39 100000 (71 + 48 * g) FP.dconst0 0 u = some (q, u) := e
      exact ⟨q, u, e, kc, u2⟩
    · rw [if_neg (fun q => q ((gbD s).mpr h7))]
      exact ⟨_, s, rfl, KC_rf s, c⟩
  · rw [if_pos ((gbD s).mpr a)]
    exact ⟨_, s, rfl, KC_rf s, c⟩
theorem sl_204_42 {f : Nat → Int} {R C g x : Nat} {s : gx_S} (K : UInt64 → Int → gx_S → Option (Int × gx_S)) (M : MP f R C) (h7 : f 2 = 7) (hg : g < 3) (hx : x < 8) (e1 : s.1 223 x = sg (fun y => PMV f R C g x y) 9) (e2 : ∀ y, y < 9 → s.1 222 (9 * x + y) = PMV f R C g x y) : ∀ (n y : Nat) (a : UInt64), 9 < n + y → y ≤ 9 → Jvm.Free.Fl.Mag64 (1100 + 2 * (9 * x + y)) a → ∃ b : UInt64, Jvm.Free.Fl.Mag64 (1100 + 2 * (9 * (x + 1))) b ∧ gm_204_42 K n a x y s = K b ((x + 1 : Nat) : Int) s := by
  intro n
  induction n with
  | zero => intro y a h; omega
  | succ n ih =>
    intro y a h hy ha
    have cx : ((x : Int) + 1) = ((x + 1 : Nat) : Int) := rfl
    have ce : ((y : Int) + 1) = ((y + 1 : Nat) : Int) := rfl
    have ix : ((x : Int)).toNat = x := by omega
    rw [gm_204_42, if_pos (by omega)]
    by_cases z : y = 9
    · refine ⟨a, ha.mono (by omega), ?_⟩
      rw [if_pos (by omega), gm_204_120, cx]
    · have r2 := SO_r M h7 hg (x : Int) (-1) (decide (SO f R C g (x : Int) (-1) false = 0))
      have ew : s.1 223 x = SO f R C g (x : Int) (-1) (decide (SO f R C g (x : Int) (-1) false = 0)) := by
        rw [e1]
        exact SO_row M h7 _ _
      have r3 : 0 ≤ s.1 222 (9 * x + y) ∧ s.1 222 (9 * x + y) ≤ 864 := by
        rw [e2 y (by omega)]
        exact SO_r M h7 hg _ _ _
      rw [if_neg (by omega), if_pos (by omega), ix, ew]
      rw [← ew]
      have rw2 : 0 ≤ s.1 223 x ∧ s.1 223 x ≤ 864 := by rw [ew]; exact r2
      rw [if_pos (by omega)]
      by_cases w : s.1 223 x ≤ 0
      · refine ⟨a, ha.mono (by omega), ?_⟩
        rw [if_pos w, gm_204_120, cx]
      · have i9 : ((9 : Int) * (x : Int) + (y : Int)).toNat = 9 * x + y := by omega
        have q1 := d_l (a := Int64.ofInt (s.2 221 x * s.1 222 (9 * x + y))) (i_nz (show 0 < s.1 223 x by omega) (by omega))
        have q2 := Jvm.Free.Fl.dsub_mag ((Jvm.Free.Fl.l2d_mag (Int64.ofInt (s.2 224 (9 * x + y)))).mono (show 1088 ≤ 1095 by decide)) q1 (by decide)
        have q3 := Jvm.Free.Fl.dadd_mag ha ((d_abs q2).mono (show 1095 + 2 ≤ 1100 + 2 * (9 * x + y) by omega)) (by omega)
        rw [if_neg w, sp_160, Option.bind_some]
        dsimp only
        rw [if_pos (by omega), i9, if_pos (by omega), if_pos (d6 (q1.fin (by decide)).noNaN), sp_160, Option.bind_some]
        dsimp only
        rw [if_pos (by omega), i9, if_pos (d6 (q2.fin (by decide)).noNaN), if_pos (d6 (q3.fin (by omega)).noNaN), ce]
        exact ih (y + 1) _ (by omega) (by omega) (q3.mono (by omega))
theorem sl_204_32 {f : Nat → Int} {R C g : Nat} {s : gx_S} (M : MP f R C) (h7 : f 2 = 7) (hg : g < 3) (e : ∀ x, x < 8 → s.1 223 x = sg (fun y => PMV f R C g x y) 9 ∧ ∀ y, y < 9 → s.1 222 (9 * x + y) = PMV f R C g x y) : ∀ (n x : Nat) (a : UInt64), 8 < n + x → x ≤ 8 → Jvm.Free.Fl.Mag64 (1100 + 2 * (9 * x)) a → ∃ q : Int, gm_204_32 n a x s = some (q, s) := by
  intro n
  induction n with
  | zero => intro x a h; omega
  | succ n ih =>
    intro x a h hx ha
    rw [gm_204_32, if_pos (by omega)]
    by_cases z : x = 8
    · rw [if_pos (by omega), if_pos (d6 (ha.fin (by omega)).noNaN)]
      exact ⟨_, rfl⟩
    · have e0 := e x (by omega)
      obtain ⟨b, b1, b2⟩ := sl_204_42 (gm_204_32 n) M h7 hg (show x < 8 by omega) e0.1 e0.2 100000 0 a (by omega) (by omega) ha
      have b2 : gm_204_42 (gm_204_32 n) 100000 a x 0 s = _ := b2
      rw [if_neg (by omega), b2]
      exact ih (x + 1) b (by omega) (by omega) b1
theorem ref_off {s : gx_S} {R C : Nat} {x : Int} (M : MP (s.1 216) R C) (S : SC s) (hx : i32 x) : ∃ (r : Int) (w : gx_S), gm_204 x s = some (r, w) ∧ KRw s w := by
  unfold gm_204
  rw [sp_150 M.2.1, Option.bind_some]
  by_cases h7 : s.1 216 2 = 7
  · rw [if_neg (fun q => (gbD s).mp q h7)]
    dsimp only
    rw [sp_148 s hx, Option.bind_some]
    by_cases a : 0 ≤ x ∧ x ≤ 2
    · rw [if_pos (fun q => (gbD s).mp q a)]
      dsimp only
      obtain ⟨g, rfl⟩ : ∃ g : Nat, x = g := ⟨x.toNat, by omega⟩
      obtain ⟨u, w, k1, k2, k3, k4, k5, k6, k7⟩ := sp_181f M h7 (show g < 3 by omega) S
      rw [k1, Option.bind_some, k2, Option.bind_some]
      obtain ⟨q, e⟩ := sl_204_32 (s := w) M h7 (show g < 3 by omega) (fun x hx => ⟨(k7 x hx).2.1, fun y hy => ((k7 x hx).2.2 y hy).1⟩) 100000 0 FP.dconst0 (by omega) (by omega) d_0
      have e : gm_204_32 100000 FP.dconst0 0 w = some (q, w) := e
      exact ⟨q, w, e, KR_w k4⟩
    · rw [if_neg (fun q => q ((gbD s).mpr a))]
      exact ⟨_, s, rfl, KRw_rf s⟩
  · rw [if_pos ((gbD s).mpr h7)]
    exact ⟨_, s, rfl, KRw_rf s⟩
theorem inv_offW {s : gx_S} (h : INV s) {x : Int} (hx : i32 x) : twW s (gm_109 x) (gm_204 x) := by
  obtain ⟨f, R, C, n, pf, L, tb, c, r, v⟩ := id h
  obtain ⟨a, u, h1, kc, cu⟩ := cls_off c v.1 hx
  have ru := RV_KC kc r
  have eu : u.1 216 = f := ru.1
  obtain ⟨b, w, h2, kw⟩ := ref_off (s := u) (R := R) (C := C) (by rw [eu]; exact v.1) ru.2.2.2.2 hx
  exact ⟨a, b, u, w, h1, h2, q_inv kc cu r v kw⟩
end
