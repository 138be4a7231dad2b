/-! THE REFERENCE: laysMoved, its fills, sums of rows and columns -/
theorem sp_180 {s : gx_S} {R C : Nat} (M : MP (s.1 216) R C) (h : s.1 216 2 = 7) {g x : Nat} (hg : g < 3) (hx : x < 9) : gm_180 g x s = some (decide (SO (s.1 216) R C g x (-1) false = 0), s) := by
  have r := SO_r M h hg x (-1) false
  have c57 := sp_157g M h (x : Int) (-1) false hg (by omega) (by omega)
  have c57 : gm_157 g x (-1) 0 s = _ := c57
  unfold gm_180
  rw [c57, Option.bind_some]
  generalize SO (s.1 216) R C g x (-1) false = S at *
  rw [if_pos (by omega)]
  by_cases z : S = 0
  · rw [if_neg (fun q => q z), decide_eq_true z]
  · rw [if_pos z, decide_eq_false z]
theorem sl_181_44 {f : Nat → Int} {R C g x : Nat} (k : Int → Int → gx_S → Option gx_S) (M : MP f R C) (h7 : f 2 = 7) (hg : g < 3) (hx : x < 8) (b : Bool) : ∀ (n y : Nat) (s : gx_S), 9 < n + y → y ≤ 9 → s.1 216 = f → ∃ u : gx_S, gm_181_44 k n g x (gb b) y s = k g ((x + 1 : Nat) : Int) u ∧ u.2 = s.2 ∧ (∀ k i, k ≠ 222 → u.1 k i = s.1 k i) ∧ (∀ y', y ≤ y' → y' < 9 → u.1 222 (9 * x + y') = SO f R C g x y' b) ∧ ∀ i, ¬ (9 * x + y ≤ i ∧ i < 9 * x + 9) → u.1 222 i = s.1 222 i := by
  intro n
  induction n with
  | zero => intro y s h; omega
  | succ n ih =>
    intro y s h hy ef
    rw [gm_181_44, if_pos (by omega)]
    by_cases q : y = 9
    · rw [if_pos (by omega)]
      exact ⟨s, rfl, rfl, fun _ _ _ => rfl, fun y' h1 h2 => by omega, fun _ _ => rfl⟩
    · have ce : ((y : Int) + 1) = ((y + 1 : Nat) : Int) := rfl
      have i1 : ((9 * (x : Int) + (y : Int))).toNat = 9 * x + y := by omega
      have c57 := sp_157g (s := s) (R := R) (C := C) (by rw [ef]; exact M) (by rw [ef]; exact h7) (x : Int) (y : Int) b hg (by omega) (by omega)
      rw [ef] at c57
      rw [if_neg (by omega), sp_160, Option.bind_some]
      show ∃ u : gx_S, ((gm_157 g x y (gb b) s).bind _) = k g ((x + 1 : Nat) : Int) u ∧ _
      rw [c57, Option.bind_some, if_pos (by omega), i1, ce]
      obtain ⟨u, u1, u2, u3, u4, u5⟩ := ih (y + 1) (gw1 s 222 (9 * x + y) (SO f R C g x y b)) (by omega) (by omega) (by
        funext i
        rw [gw1_1, if_neg (by omega), ef])
      refine ⟨u, u1, u2, fun k i h1 => by rw [u3 k i h1, gw1_1, if_neg (fun x => h1 x.1)], fun y' h1 h2 => ?_, fun i h1 => ?_⟩
      · by_cases e : y' = y
        · rw [e, u5 _ (by omega), gw1_1, if_pos ⟨rfl, rfl⟩]
        · exact u4 y' (by omega) h2
      · rw [u5 i (by omega), gw1_1, if_neg (by omega)]
theorem sl_181_15 {f : Nat → Int} {R C g : Nat} (M : MP f R C) (h7 : f 2 = 7) (hg : g < 3) : ∀ (n x : Nat) (s : gx_S), 8 < n + x → x ≤ 8 → s.1 216 = f → (∀ z, z < 8 → s.1 236 z = LV f R C g z) → ∃ u : gx_S, gm_181_15 n g x s = some u ∧ (∀ k i, k ≠ 222 → u.1 k i = s.1 k i) ∧ (∀ k i, k ≠ 221 → u.2 k i = s.2 k i) ∧ (∀ x', x ≤ x' → x' < 8 → u.2 221 x' = LV f R C g x' ∧ ∀ y, y < 9 → u.1 222 (9 * x' + y) = PMV f R C g x' y) ∧ (∀ i, i < x → u.2 221 i = s.2 221 i) ∧ ∀ i, i < 9 * x → u.1 222 i = s.1 222 i := by
  intro n
  induction n with
  | zero => intro x s h; omega
  | succ n ih =>
    intro x s h hx ef hl
    rw [gm_181_15, if_pos (by omega)]
    by_cases q : x = 8
    · rw [if_pos (by omega)]
      exact ⟨s, rfl, fun _ _ _ => rfl, fun _ _ _ => rfl, fun x' h1 h2 => by omega, fun _ _ => rfl, fun _ _ => rfl⟩
    · have i5 : ((x : Int)).toNat = x := by omega
      obtain ⟨p1, p2⟩ := PA_mv M h7 hg
      have lr := p1.1 x (by omega)
      have c80 := sp_180 (s := gw2 s 221 x (LV f R C g x)) (R := R) (C := C) (by show MP (s.1 216) R C; rw [ef]; exact M) (by show s.1 216 2 = 7; rw [ef]; exact h7) hg (show x < 9 by omega)
      have e16 : (gw2 s 221 x (LV f R C g x)).1 216 = f := ef
      rw [e16] at c80
      rw [if_neg (by omega), if_pos (by omega), i5, hl x (by omega), if_pos (by omega), c80, Option.bind_some]
      obtain ⟨t, t1, t2, t3, t4, t5⟩ := sl_181_44 (gm_181_15 n) M h7 hg (show x < 8 by omega) (decide (SO f R C g x (-1) false = 0)) 100000 0 (gw2 s 221 x (LV f R C g x)) (by omega) (by omega) ef
      have t1 : gm_181_44 (gm_181_15 n) 100000 g x (gb (decide (SO f R C g x (-1) false = 0))) 0 (gw2 s 221 x (LV f R C g x)) = gm_181_15 n g ((x + 1 : Nat) : Int) t := t1
      show ∃ u : gx_S, gm_181_44 (gm_181_15 n) 100000 g x (gb (decide (SO f R C g x (-1) false = 0))) 0 (gw2 s 221 x (LV f R C g x)) = some u ∧ _
      rw [t1]
      have tk : ∀ k i, k ≠ 222 → t.1 k i = s.1 k i := fun k i h1 => t3 k i h1
      obtain ⟨u, u1, u2, u3, u4, u5, u6⟩ := ih (x + 1) t (by omega) (by omega) (by
        funext i
        rw [tk 216 i (by decide), ef]) (fun z hz => by rw [tk 236 z (by decide)]; exact hl z hz)
      refine ⟨u, u1, fun k i h1 => (u2 k i h1).trans (tk k i h1), fun k i h1 => ?_, fun x' h1 h2 => ?_, fun i h1 => ?_, fun i h1 => ?_⟩
      · rw [u3 k i h1, t2, gw2_2, if_neg (fun x => h1 x.1)]
      · by_cases e : x' = x
        · rw [e]
          refine ⟨?_, fun y hy => ?_⟩
          · rw [u5 x (by omega), t2, gw2_2, if_pos ⟨rfl, rfl⟩]
          · rw [u6 _ (by omega), t4 y (by omega) hy]
            rfl
        · exact u4 x' (by omega) h2
      · rw [u5 i (by omega), t2, gw2_2, if_neg (by omega)]
      · rw [u6 i (by omega), t5 i (by omega)]
        rfl
theorem sp_181 {s : gx_S} {R C g : Nat} (M : MP (s.1 216) R C) (h7 : s.1 216 2 = 7) (hg : g < 3) : ∃ u : gx_S, gm_181 g s = some u ∧ KR s u ∧ u.1 215 17 = 8 ∧ u.1 215 18 = 9 ∧ ∀ x, x < 8 → u.2 221 x = LV (s.1 216) R C g x ∧ ∀ y, y < 9 → u.1 222 (9 * x + y) = PMV (s.1 216) R C g x y := by
  obtain ⟨a, a1, a2, a3⟩ := sp_177 M hg
  obtain ⟨b, b1, b2, b3, b4, b5, b6, b7⟩ := KR_159 a 8 9
  have Kb := KR_tr a3 b2
  obtain ⟨u, u1, u2, u3, u4, u5, u6⟩ := sl_181_15 M h7 hg 100000 0 b (by omega) (by omega) (KR_216 Kb) fun z hz => by
    rw [b6 236 z (by decide) (by decide)]
    exact a2 z hz
  have u1 : gm_181_15 100000 g 0 b = _ := u1
  refine ⟨u, ?_, KR_tr Kb ⟨fun k j q => u2 k j (by omega), fun k j q => u3 k j (by omega), fun S => ⟨fun j hj => by rw [u2 232 j (by decide), u2 233 j (by decide), u2 234 j (by decide), u3 225 j (by decide)]; exact S.1 j hj, fun c hc => by rw [u2 235 c (by decide), u3 229 c (by decide), u3 230 c (by decide), u3 227 c (by decide), u3 228 c (by decide)]; exact S.2.1 c hc, fun k hk => by rw [u3 231 k (by decide)]; exact S.2.2 k hk⟩⟩, (u2 215 17 (by decide)).trans b3, (u2 215 18 (by decide)).trans b4, fun x hx => u4 x (by omega) hx⟩
  unfold gm_181
  rw [a1, Option.bind_some, b1, Option.bind_some, u1]
/-- where those of the old zones go, in whole persons -/
def GV (f : Nat → Int) (R C g : Nat) : Nat → Nat → Int := TB (f 3) (LV f R C g) (PMV f R C g)
theorem sp_181f {s : gx_S} {R C g : Nat} (M : MP (s.1 216) R C) (h7 : s.1 216 2 = 7) (hg : g < 3) (S : SC s) : ∃ u w : gx_S, gm_181 g s = some u ∧ gm_173 u = some w ∧ KR s u ∧ KR s w ∧ w.1 215 17 = 8 ∧ w.1 215 18 = 9 ∧ (∀ x, x < 8 → w.2 221 x = LV (s.1 216) R C g x ∧ w.1 223 x = sg (fun y => PMV (s.1 216) R C g x y) 9 ∧ ∀ y, y < 9 → w.1 222 (9 * x + y) = PMV (s.1 216) R C g x y ∧ w.2 224 (9 * x + y) = GV (s.1 216) R C g x y) := by
  obtain ⟨u, u1, u2, u3, u4, u5⟩ := sp_181 M h7 hg
  obtain ⟨p1, p2⟩ := PA_mv M h7 hg
  obtain ⟨w, w1, w2, w3, w4, w5, w6⟩ := TB_ref (md := s.1 216 3) (r := u) (R := 8) (m := 9) M.2.2.1 p1 (u2.2.2 S) u3 u4 (by omega) (by omega) (fun _ => p2) (by rw [KR_216 u2]) (fun x hx => (u5 x hx).1) (fun x y hx hy => (u5 x hx).2 y hy) (fun x y hx hy hn => absurd ⟨hx, hy⟩ hn)
  refine ⟨u, w, u1, w1, u2, KR_tr u2 (KR_rc w3 w4), ?_, ?_, fun x hx => ⟨?_, w5 x hx, fun y hy => ⟨?_, w2 x y hx hy⟩⟩⟩
  · rw [w3.1 215 17 (by decide) (by decide) (by decide) (by decide) (by decide)]
    exact u3
  · rw [w3.1 215 18 (by decide) (by decide) (by decide) (by decide) (by decide)]
    exact u4
  · rw [w3.2 221 x (by omega) (by omega)]
    exact (u5 x hx).1
  · rw [w3.1 222 _ (by decide) (by decide) (by decide) (by decide) (by decide)]
    exact (u5 x hx).2 y hy
theorem sp_183 {s : gx_S} {R y : Nat} (h : s.1 215 17 = R) (R8 : R ≤ 8) (hy : y < 9) : gm_183 y s = some (sg (fun x => s.2 224 (9 * x + y)) R, s) := by
  have e : ∀ (n j : Nat), R < n + j → j ≤ R → gm_183_4 n y (sg (fun x => s.2 224 (9 * x + y)) j) j s = some (sg (fun x => s.2 224 (9 * x + y)) R, s) := by
    intro n
    induction n with
    | zero => intro j h; omega
    | succ n ih =>
      intro j h' hj
      rw [gm_183_4, h, if_pos (by omega), if_pos (by omega)]
      by_cases q : j = R
      · rw [if_pos (by omega), q]
      · have ce : ((j : Int) + 1) = ((j + 1 : Nat) : Int) := rfl
        have i1 : ((9 * (j : Int) + (y : Int))).toNat = 9 * j + y := by omega
        rw [if_neg (by omega), sp_160, Option.bind_some, if_pos (by omega), i1, ce]
        exact ih (j + 1) (by omega) (by omega)
  exact e 100000 0 (by omega) (by omega)
theorem sp_182 {s : gx_S} {m x : Nat} (h : s.1 215 18 = m) (m9 : m ≤ 9) (hx : x < 8) : gm_182 x s = some (sg (fun y => s.2 224 (9 * x + y)) m, s) := by
  have e : ∀ (n j : Nat), m < n + j → j ≤ m → gm_182_4 n x (sg (fun y => s.2 224 (9 * x + y)) j) j s = some (sg (fun y => s.2 224 (9 * x + y)) m, s) := by
    intro n
    induction n with
    | zero => intro j h; omega
    | succ n ih =>
      intro j h' hj
      rw [gm_182_4, h, if_pos (by omega), if_pos (by omega)]
      by_cases q : j = m
      · rw [if_pos (by omega), q]
      · have ce : ((j : Int) + 1) = ((j + 1 : Nat) : Int) := rfl
        have i1 : ((9 * (x : Int) + (j : Int))).toNat = 9 * x + j := by omega
        rw [if_neg (by omega), sp_160, Option.bind_some, if_pos (by omega), i1, ce]
        exact ih (j + 1) (by omega) (by omega)
  exact e 100000 0 (by omega) (by omega)
theorem sp_184 {s : gx_S} {R m : Nat} (h : s.1 215 17 = R) (h18 : s.1 215 18 = m) (R8 : R ≤ 8) (m9 : m ≤ 9) : gm_184 s = some (sg (fun x => sg (fun y => s.2 224 (9 * x + y)) m) R, s) := by
  have e : ∀ (n j : Nat), R < n + j → j ≤ R → gm_184_4 n (sg (fun x => sg (fun y => s.2 224 (9 * x + y)) m) j) j s = some (sg (fun x => sg (fun y => s.2 224 (9 * x + y)) m) R, s) := by
    intro n
    induction n with
    | zero => intro j h; omega
    | succ n ih =>
      intro j h' hj
      rw [gm_184_4, h, if_pos (by omega), if_pos (by omega)]
      by_cases q : j = R
      · rw [if_pos (by omega), q]
      · have ce : ((j : Int) + 1) = ((j + 1 : Nat) : Int) := rfl
        rw [if_neg (by omega), sp_182 h18 m9 (by omega), Option.bind_some, ce]
        exact ih (j + 1) (by omega) (by omega)
  exact e 100000 0 (by omega) (by omega)
