/-! QUERIES: moved -/
def pxs (F : Nat → Int) (lo n : Nat) : Int := sg (fun y => if lo ≤ y then F y else 0) n
theorem pxs_0 (F : Nat → Int) (lo : Nat) : pxs F lo lo = 0 := by
  have e : pxs F lo lo = sg (fun _ => 0) lo := sg_eq fun y hy => if_neg (by omega)
  rw [e]
  have : ∀ n, sg (fun _ => (0 : Int)) n = 0 := fun n => by
    induction n with
    | zero => rfl
    | succ n ih => show sg (fun _ => (0 : Int)) n + 0 = 0; rw [ih]; rfl
  exact this lo
theorem pxs_s (F : Nat → Int) {lo n : Nat} (h : lo ≤ n) : pxs F lo (n + 1) = pxs F lo n + F n := by
  show sg (fun y => if lo ≤ y then F y else 0) n + (if lo ≤ n then F n else 0) = _
  rw [if_pos h]
  rfl
theorem pxs_1 (F : Nat → Int) (z : Nat) : pxs F z (z + 1) = F z := by
  rw [pxs_s F (Nat.le_refl z), pxs_0, Int.zero_add]
theorem pxs_a (F : Nat → Int) (n : Nat) : pxs F 0 n = sg F n := sg_eq fun y _ => if_pos (Nat.zero_le y)
theorem sl_99_124 {a lo hi x x6 : Nat} {s : gx_S} {k : Nat → Int → Int → Int → Int → Int → gx_S → Option (Int × gx_S)} {A : Int} (hx : x < 8) (hh : hi < 9) : ∀ (m j : Nat), hi + 1 < m + j → lo ≤ j → j ≤ hi + 1 → gm_99_124 k m a x6 lo hi (A + pxs (fun y => s.1 (a + 11) (9 * x + y)) lo j) x j s = k a x6 lo hi (A + pxs (fun y => s.1 (a + 11) (9 * x + y)) lo (hi + 1)) ((x + 1 : Nat) : Int) s := by
  intro m
  induction m with
  | zero => intro j h; omega
  | succ m ih =>
    intro j h h1 h2
    have cx : ((x : Int) + 1) = ((x + 1 : Nat) : Int) := rfl
    rw [gm_99_124, if_pos (by omega), if_pos (by omega)]
    by_cases q : j = hi + 1
    · rw [if_pos (by omega), q, cx]
    · have cj : ((j : Int) + 1) = ((j + 1 : Nat) : Int) := rfl
      have ix : (((x : Int) * 9) + (j : Int)).toNat = 9 * x + j := by omega
      rw [if_neg (by omega), if_pos (by omega), ix, cj, Int.add_assoc, show a + 3 + 8 = a + 11 from rfl]
      have e := pxs_s (fun y => s.1 (a + 11) (9 * x + y)) h1
      rw [← e]
      exact ih (j + 1) (by omega) (by omega) (by omega)
theorem sl_99_113 {a lo hi l2 h2 : Nat} {s : gx_S} (hl : lo ≤ hi + 1) (hh : hi < 9) (hx : h2 < 8) : ∀ (m x : Nat), h2 + 1 < m + x → l2 ≤ x → x ≤ h2 + 1 → gm_99_113 m a h2 lo hi (pxs (fun x => pxs (fun y => s.1 (a + 11) (9 * x + y)) lo (hi + 1)) l2 x) x s = some (pxs (fun x => pxs (fun y => s.1 (a + 11) (9 * x + y)) lo (hi + 1)) l2 (h2 + 1), s) := by
  intro m
  induction m with
  | zero => intro j h; omega
  | succ m ih =>
    intro x h h1 h3
    rw [gm_99_113, if_pos (by omega), if_pos (by omega)]
    by_cases q : x = h2 + 1
    · rw [if_pos (by omega), q]
    · rw [if_neg (by omega)]
      have i := sl_99_124 (a := a) (lo := lo) (hi := hi) (x := x) (x6 := h2) (s := s) (k := gm_99_113 m) (A := pxs (fun x => pxs (fun y => s.1 (a + 11) (9 * x + y)) lo (hi + 1)) l2 x) (by omega) hh 100000 lo (by omega) (Nat.le_refl lo) hl
      rw [pxs_0, Int.add_zero] at i
      rw [i]
      have e := pxs_s (fun x => pxs (fun y => s.1 (a + 11) (9 * x + y)) lo (hi + 1)) h1
      have e' : pxs (fun x => pxs (fun y => s.1 (a + 11) (9 * x + y)) lo (hi + 1)) l2 x + pxs (fun y => s.1 (a + 11) (9 * x + y)) lo (hi + 1) = pxs (fun x => pxs (fun y => s.1 (a + 11) (9 * x + y)) lo (hi + 1)) l2 (x + 1) := e.symm
      rw [e']
      exact ih (x + 1) (by omega) (by omega) (by omega)
/-- the sum of the asked part of a table -/
def MVs (G : Nat → Nat → Int) (o z : Int) : Int := if o = -1 then (if z = -1 then sg (fun x => sg (fun y => G x y) 9) 8 else sg (fun x => G x z.toNat) 8) else (if z = -1 then sg (fun y => G o.toNat y) 9 else G o.toNat z.toNat)
theorem sp_99t {a : Nat} {s : gx_S} {o z : Int} {G : Nat → Nat → Int} (ho : -1 ≤ o ∧ o < 8) (hz : -1 ≤ z ∧ z < 9) (hG : ∀ x y, x < 8 → y < 9 → s.1 (a + 11) (9 * x + y) = G x y) : (if ¬ o = -1 then gm_99_66 o z a o s else gm_99_66 o z a 0 s) = some (MVs G o z, s) := by
  have st : ∀ l2 h2 lo hi : Nat, lo ≤ hi + 1 → hi < 9 → h2 < 8 → l2 ≤ h2 + 1 → gm_99_104 a l2 h2 lo hi s = some (pxs (fun x => pxs (fun y => s.1 (a + 11) (9 * x + y)) lo (hi + 1)) l2 (h2 + 1), s) := fun l2 h2 lo hi q1 q2 q3 q4 => by
    have i := sl_99_113 (a := a) (lo := lo) (hi := hi) (l2 := l2) (h2 := h2) (s := s) q1 q2 q3 100000 l2 (by omega) (Nat.le_refl l2) q4
    rw [pxs_0] at i
    exact i
  have GG : ∀ l2 h2 lo hi : Nat, hi < 9 → h2 < 8 → pxs (fun x => pxs (fun y => s.1 (a + 11) (9 * x + y)) lo (hi + 1)) l2 (h2 + 1) = pxs (fun x => pxs (fun y => G x y) lo (hi + 1)) l2 (h2 + 1) := fun l2 h2 lo hi q1 q2 => sg_eq fun x hx => by
    have e : pxs (fun y => s.1 (a + 11) (9 * x + y)) lo (hi + 1) = pxs (fun y => G x y) lo (hi + 1) := sg_eq fun y hy => by
      show (if lo ≤ y then s.1 (a + 11) (9 * x + y) else 0) = (if lo ≤ y then G x y else 0)
      rw [hG x y (by omega) (by omega)]
    show (if l2 ≤ x then pxs (fun y => s.1 (a + 11) (9 * x + y)) lo (hi + 1) else 0) = _
    rw [e]
  unfold gm_99_66 MVs
  by_cases p : o = -1
  · rw [if_neg (fun t => t p), if_pos p, p, if_pos (show (-2147483648 : Int) ≤ -1 ∧ (-1 : Int) ≤ 2147483647 by decide), if_neg (show ¬ ¬ (-1 : Int) = -1 from fun t => t rfl)]
    unfold gm_99_79
    rw [if_pos (by omega)]
    by_cases q : z = -1
    · rw [if_neg (fun t => t q), if_pos q, q]
      unfold gm_99_91
      rw [if_pos (show (-2147483648 : Int) ≤ -1 ∧ (-1 : Int) ≤ 2147483647 by decide), if_neg (show ¬ ¬ (-1 : Int) = -1 from fun t => t rfl)]
      have := st 0 7 0 8 (by omega) (by omega) (by omega) (by omega)
      rw [GG 0 7 0 8 (by omega) (by omega), pxs_a] at this
      have e : sg (fun x => pxs (fun y => G x y) 0 9) 8 = sg (fun x => sg (fun y => G x y) 9) 8 := sg_eq fun x _ => pxs_a _ _
      rw [← e]
      exact this
    · obtain ⟨z, rfl⟩ : ∃ z' : Nat, z = z' := ⟨z.toNat, by omega⟩
      rw [if_pos q, if_neg q]
      unfold gm_99_91
      rw [if_pos (by omega), if_pos q]
      have := st 0 7 z z (by omega) (by omega) (by omega) (by omega)
      rw [GG 0 7 z z (by omega) (by omega), pxs_a] at this
      have e : sg (fun x => pxs (fun y => G x y) z (z + 1)) 8 = sg (fun x => G x (z : Int).toNat) 8 := sg_eq fun x _ => pxs_1 _ _
      rw [← e]
      exact this
  · obtain ⟨o, rfl⟩ : ∃ o' : Nat, o = o' := ⟨o.toNat, by omega⟩
    rw [if_pos p, if_neg p, if_pos (by omega), if_pos p]
    unfold gm_99_79
    rw [if_pos (by omega)]
    by_cases q : z = -1
    · rw [if_neg (fun t => t q), if_pos q, q]
      unfold gm_99_91
      rw [if_pos (show (-2147483648 : Int) ≤ -1 ∧ (-1 : Int) ≤ 2147483647 by decide), if_neg (show ¬ ¬ (-1 : Int) = -1 from fun t => t rfl)]
      have := st o o 0 8 (by omega) (by omega) (by omega) (by omega)
      rw [GG o o 0 8 (by omega) (by omega), pxs_1, pxs_a] at this
      exact this
    · obtain ⟨z, rfl⟩ : ∃ z' : Nat, z = z' := ⟨z.toNat, by omega⟩
      rw [if_pos q, if_neg q]
      unfold gm_99_91
      rw [if_pos (by omega), if_pos q]
      have := st o o z z (by omega) (by omega) (by omega) (by omega)
      rw [GG o o z z (by omega) (by omega), pxs_1, pxs_1] at this
      exact this
theorem vg_ (g : Nat) (hg : g < 3) : fx_rf 70 (g : Int).toNat = 71 + 48 * g := by
  rw [show ((g : Int)).toNat = g by omega]
  rcases (show g = 0 ∨ g = 1 ∨ g = 2 by omega) with e | e | e
  · rw [e]; rfl
  · rw [e]; rfl
  · rw [e]; rfl
theorem inv_moved {s : gx_S} (h : INV s) {x o z : Int} (hx : i32 x) (ho : i32 o) (hz : i32 z) : two s (gm_99 x o z) (gm_185 x o z) := by
  obtain ⟨f, R, C, n, pf, L, tb, c, r, v⟩ := id h
  have hx' := hx
  have ho' := ho
  have hz' := hz
  unfold i32 at hx' ho' hz'
  have e6 : s.1 1 6 = f 2 := c.1.2.2.1
  have c14 := sp_114 s hx
  have c148 : ∀ t : gx_S, gm_148 x t = _ := fun t => sp_148 t hx
  have c57 := sp_57 (s := s) (a := 1) (by decide +kernel) (by rw [e6]; exact v.1.2.1)
  rw [e6] at c57
  have c150 : ∀ t : gx_S, t.1 216 = f → gm_150 t = some (decide (f 2 = 7), t) := fun t et => by
    have := sp_150 (s := t) (by rw [et]; exact v.1.2.1)
    rw [et] at this
    exact this
  by_cases ok : (0 ≤ x ∧ x < 3) ∧ f 2 = 7 ∧ (-1 ≤ o ∧ o ≤ 7) ∧ (-1 ≤ z ∧ z ≤ 8)
  · obtain ⟨a, h7, b, d⟩ := ok
    obtain ⟨g, rfl⟩ : ∃ g : Nat, x = g := ⟨x.toNat, by omega⟩
    have hg : g < 3 := by omega
    obtain ⟨D, u, u1, u2, u3, u4, u5, u6⟩ := CV_ready (w := 2) (by omega) v.1 h7 hg c
    have u1 : gm_19 (71 + 48 * g) 2 s = some u := u1
    have tm := (u4.2.2.2.2.1 u5).2.1
    have kc : KC s u := KG_KC (ga_of hg) u3
    have ru := RV_KC kc r
    have eu : u.1 216 = f := ru.1
    have t1 := sp_99t (a := 71 + 48 * g) (s := u) (o := o) (z := z) (G := GV f R C g) (by omega) (by omega) fun x y hx hy => ((tm x hx).2.2 y hy).2.2.2
    have s1 : gm_99 g o z s = some (MVs (GV f R C g) o z, u) := by
      unfold gm_99
      rw [c14, Option.bind_some, if_neg (fun q => (gbD s).mp q a)]
      show ((gm_57 1 s).bind _) = _
      rw [c57, Option.bind_some, if_neg (fun q => (gbD s).mp q h7), if_pos ho', if_neg (by omega), if_neg (by omega), if_pos hz', if_neg (by omega), if_pos d.2, if_pos a, Option.bind_some, vg_ g hg]
      show ((gm_19 (71 + 48 * g) 2 s).bind _) = _
      rw [u1, Option.bind_some]
      exact t1
    obtain ⟨p, w, p1, p2, p3, p4, p5, p6, p7⟩ := sp_181f (s := u) (R := R) (C := C) (g := g) (by rw [eu]; exact v.1) (by rw [eu]; exact h7) hg ru.2.2.2.2
    have wg : ∀ x y, x < 8 → y < 9 → w.2 224 (9 * x + y) = GV f R C g x y := fun x y hx hy => by
      have := ((p7 x hx).2.2 y hy).2
      rw [eu] at this
      exact this
    have s2 : gm_185 g o z u = some (MVs (GV f R C g) o z, w) := by
      unfold gm_185
      rw [c150 u eu, Option.bind_some, if_neg (fun q => (gbD s).mp q h7)]
      show ((gm_148 g u).bind _) = _
      rw [c148 u, Option.bind_some, if_neg (fun q => (gbD s).mp q (by omega)), if_pos ho', in_ u ho (by omega) (by omega), Option.bind_some, if_neg (fun q => (gbD s).mp q b), if_pos hz', in_ u hz (by omega) (by omega), Option.bind_some, if_pos (fun q => (gbD s).mp q d)]
      show ((gm_181 g u).bind _) = _
      rw [p1, Option.bind_some, p2, Option.bind_some]
      unfold MVs
      by_cases q : o = -1
      · rw [if_neg (fun t => t q), if_pos q]
        by_cases q2 : z = -1
        · rw [if_neg (fun t => t q2), if_pos q2, sp_184 (R := 8) (m := 9) p5 p6 (by omega) (by omega), Option.bind_some]
          have e : sg (fun x => sg (fun y => w.2 224 (9 * x + y)) 9) 8 = sg (fun x => sg (fun y => GV f R C g x y) 9) 8 := sg_eq fun x hx => sg_eq fun y hy => wg x y hx hy
          show some (sg (fun x => sg (fun y => w.2 224 (9 * x + y)) 9) 8, w) = _
          rw [e]
        · obtain ⟨z, rfl⟩ : ∃ z' : Nat, z = z' := ⟨z.toNat, by omega⟩
          rw [if_pos q2, if_neg q2, sp_183 (R := 8) p5 (by omega) (by omega), Option.bind_some]
          have e : sg (fun x => w.2 224 (9 * x + z)) 8 = sg (fun x => GV f R C g x z) 8 := sg_eq fun x hx => wg x z hx (by omega)
          show some (sg (fun x => w.2 224 (9 * x + z)) 8, w) = _
          rw [e]
          rfl
      · obtain ⟨o, rfl⟩ : ∃ o' : Nat, o = o' := ⟨o.toNat, by omega⟩
        rw [if_pos q, if_neg q]
        by_cases q2 : z = -1
        · rw [if_neg (fun t => t q2), if_pos q2, sp_182 (m := 9) p6 (by omega) (by omega), Option.bind_some]
          have e : sg (fun y => w.2 224 (9 * o + y)) 9 = sg (fun y => GV f R C g o y) 9 := sg_eq fun y hy => wg o y (by omega) hy
          show some (sg (fun y => w.2 224 (9 * o + y)) 9, w) = _
          rw [e]
          rfl
        · obtain ⟨z, rfl⟩ : ∃ z' : Nat, z = z' := ⟨z.toNat, by omega⟩
          rw [if_pos q2, if_neg q2]
          unfold gm_160
          rw [Option.bind_some]
          show (if 0 ≤ ((9 * (o : Int)) + (z : Int)) ∧ ((9 * (o : Int)) + (z : Int)) < 72 then some ((w.2 224 ((9 * (o : Int)) + (z : Int)).toNat), w) else none) = _
          rw [if_pos (by omega), show ((9 * (o : Int)) + (z : Int)).toNat = 9 * o + z by omega, wg o z (by omega) (by omega)]
          rfl
    exact ⟨_, u, w, s1, s2, q_inv kc u2 r v (KR_w p4)⟩
  · refine ⟨-1, s, s, ?_, ?_, h⟩
    · unfold gm_99
      rw [c14, Option.bind_some]
      by_cases a : 0 ≤ x ∧ x < 3
      · rw [if_neg (fun q => (gbD s).mp q a)]
        show ((gm_57 1 s).bind _) = _
        rw [c57, Option.bind_some]
        by_cases b : f 2 = 7
        · rw [if_neg (fun q => (gbD s).mp q b), if_pos ho']
          by_cases d : o < -1
          · rw [if_pos d]
          · rw [if_neg d]
            by_cases e : 8 ≤ o
            · rw [if_pos e]
            · rw [if_neg e, if_pos hz']
              by_cases t : z < -1
              · rw [if_pos t]
              · rw [if_neg t, if_neg (fun q => ok ⟨a, b, by omega, by omega⟩)]
        · rw [if_pos ((gbD s).mpr b)]
      · rw [if_pos ((gbD s).mpr a)]
    · unfold gm_185
      rw [c150 s r.1, Option.bind_some]
      by_cases b : f 2 = 7
      · rw [if_neg (fun q => (gbD s).mp q b)]
        show ((gm_148 x s).bind _) = _
        rw [c148 s, Option.bind_some]
        by_cases a : 0 ≤ x ∧ x ≤ 2
        · rw [if_neg (fun q => (gbD s).mp q a), if_pos ho', in_ s ho (by omega) (by omega), Option.bind_some]
          by_cases d : -1 ≤ o ∧ o ≤ 7
          · rw [if_neg (fun q => (gbD s).mp q d), if_pos hz', in_ s hz (by omega) (by omega), Option.bind_some, if_neg (fun q => q ((gbD s).mpr fun t => ok ⟨by omega, b, d, t⟩))]
          · rw [if_pos ((gbD s).mpr d)]
        · rw [if_pos ((gbD s).mpr a)]
      · rw [if_pos ((gbD s).mpr b)]
