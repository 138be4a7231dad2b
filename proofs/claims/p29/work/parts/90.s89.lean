/-! THE REFERENCE: what flows back -/
theorem sl_191_83 {f : Nat → Int} {R C g x : Nat} (k : Int → Int → gx_S → Option gx_S) (M : MP f R C) (h7 : f 2 = 7) (hg : g < 3) (hx : x < 8) (b : Bool) : ∀ (n y : Nat) (s : gx_S), 9 < n + y → y ≤ 9 → s.1 216 = f → ∃ u : gx_S, gm_191_83 k n g x (gb b) y s = k g ((x + 1 : Nat) : Int) u ∧ u.2 = s.2 ∧ (∀ k i, k ≠ 222 → u.1 k i = s.1 k i) ∧ (∀ y', y ≤ y' → y' < 9 → u.1 222 (9 * x + y') = SO f R C g y' x b) ∧ ∀ i, ¬ (9 * x + y ≤ i ∧ i < 9 * x + 9) → u.1 222 i = s.1 222 i := by
  intro n
  induction n with
  | zero => intro y s h; omega
  | succ n ih =>
    intro y s h hy ef
    rw [gm_191_83, if_pos (by omega)]
    by_cases q : y = 9
    · rw [if_pos (by omega)]
      exact ⟨s, rfl, rfl, fun _ _ _ => rfl, fun y' h1 h2 => by omega, fun _ _ => rfl⟩
    · have ce : ((y : Int) + 1) = ((y + 1 : Nat) : Int) := rfl
      have i1 : ((9 * (x : Int) + (y : Int))).toNat = 9 * x + y := by omega
      have c57 := sp_157g (s := s) (R := R) (C := C) (by rw [ef]; exact M) (by rw [ef]; exact h7) (y : Int) (x : Int) b hg (by omega) (by omega)
      rw [ef] at c57
      rw [if_neg (by omega), sp_160, Option.bind_some]
      show ∃ u : gx_S, ((gm_157 g y x (gb b) s).bind _) = k g ((x + 1 : Nat) : Int) u ∧ _
      rw [c57, Option.bind_some, if_pos (by omega), i1, ce]
      obtain ⟨u, u1, u2, u3, u4, u5⟩ := ih (y + 1) (gw1 s 222 (9 * x + y) (SO f R C g y x b)) (by omega) (by omega) (by
        funext i
        rw [gw1_1, if_neg (by omega), ef])
      refine ⟨u, u1, u2, fun k i h1 => by rw [u3 k i h1, gw1_1, if_neg (fun x => h1 x.1)], fun y' h1 h2 => ?_, fun i h1 => ?_⟩
      · by_cases e : y' = y
        · rw [e, u5 _ (by omega), gw1_1, if_pos ⟨rfl, rfl⟩]
        · exact u4 y' (by omega) h2
      · rw [u5 i (by omega), gw1_1, if_neg (by omega)]
theorem sl_191_44 {f P : Nat → Int} {R C g : Nat} (M : MP f R C) (h7 : f 2 = 7) (hg : g < 3) (hP : ∀ x, x < 8 → 0 ≤ P x ∧ P x ≤ 100000000) : ∀ (n x : Nat) (s : gx_S), 8 < n + x → x ≤ 8 → s.1 216 = f → (∀ z, z < 8 → s.1 239 z = P z) → ∃ u : gx_S, gm_191_44 n g x s = ((gm_173 u).bind fun q4 => some q4) ∧ (∀ k i, k ≠ 222 → u.1 k i = s.1 k i) ∧ (∀ k i, k ≠ 221 → u.2 k i = s.2 k i) ∧ (∀ x', x ≤ x' → x' < 8 → u.2 221 x' = P x' ∧ ∀ y, y < 9 → u.1 222 (9 * x' + y) = Abk f R C g x' y) ∧ (∀ i, i < x → u.2 221 i = s.2 221 i) ∧ ∀ i, i < 9 * x → u.1 222 i = s.1 222 i := by
  intro n
  induction n with
  | zero => intro x s h; omega
  | succ n ih =>
    intro x s h hx ef hl
    rw [gm_191_44, if_pos (by omega)]
    by_cases q : x = 8
    · rw [if_pos (by omega)]
      exact ⟨s, rfl, fun _ _ _ => rfl, fun _ _ _ => rfl, fun x' h1 h2 => by omega, fun _ _ => rfl, fun _ _ => rfl⟩
    · have i5 : ((x : Int)).toNat = x := by omega
      have lr := hP x (by omega)
      have e16 : (gw2 s 221 x (P x)).1 216 = f := ef
      have c57 := sp_157g (s := gw2 s 221 x (P x)) (R := R) (C := C) (by rw [e16]; exact M) (by rw [e16]; exact h7) (-1) (x : Int) false hg (by omega) (by omega)
      rw [e16] at c57
      have c57 : gm_157 g (-1) x 0 (gw2 s 221 x (P x)) = _ := c57
      have sr := SO_r M h7 hg (-1) (x : Int) false
      rw [if_neg (by omega), if_pos (by omega), i5, hl x (by omega), if_pos (by omega), if_pos (by omega), c57, Option.bind_some]
      show ∃ u : gx_S, (if (-2147483648 ≤ SO f R C g (-1) x false ∧ SO f R C g (-1) x false ≤ 2147483647) then (if ¬ SO f R C g (-1) x false = 0 then gm_191_79 (gm_191_44 n) g x 0 (gw2 s 221 x (P x)) else gm_191_79 (gm_191_44 n) g x 1 (gw2 s 221 x (P x))) else none) = _ ∧ _
      rw [if_pos (by omega)]
      have st : (if ¬ SO f R C g (-1) x false = 0 then gm_191_79 (gm_191_44 n) g x 0 (gw2 s 221 x (P x)) else gm_191_79 (gm_191_44 n) g x 1 (gw2 s 221 x (P x))) = gm_191_83 (gm_191_44 n) 100000 g x (gb (decide (SO f R C g (-1) x false = 0))) 0 (gw2 s 221 x (P x)) := by
        by_cases z : SO f R C g (-1) x false = 0
        · rw [if_neg (fun t => t z), decide_eq_true z]
          rfl
        · rw [if_pos z, decide_eq_false z]
          rfl
      obtain ⟨t, t1, t2, t3, t4, t5⟩ := sl_191_83 (gm_191_44 n) M h7 hg (show x < 8 by omega) (decide (SO f R C g (-1) x false = 0)) 100000 0 (gw2 s 221 x (P x)) (by omega) (by omega) e16
      have t1 : gm_191_83 (gm_191_44 n) 100000 g x (gb (decide (SO f R C g (-1) x false = 0))) 0 (gw2 s 221 x (P x)) = gm_191_44 n g ((x + 1 : Nat) : Int) t := t1
      rw [st, t1]
      have tk : ∀ k i, k ≠ 222 → t.1 k i = s.1 k i := fun k i h1 => t3 k i h1
      obtain ⟨u, u1, u2, u3, u4, u5, u6⟩ := ih (x + 1) t (by omega) (by omega) (by
        funext i
        rw [tk 216 i (by decide), ef]) (fun z hz => by rw [tk 239 z (by decide)]; exact hl z hz)
      refine ⟨u, u1, fun k i h1 => (u2 k i h1).trans (tk k i h1), fun k i h1 => ?_, fun x' h1 h2 => ?_, fun i h1 => ?_, fun i h1 => ?_⟩
      · rw [u3 k i h1, t2, gw2_2, if_neg (fun x => h1 x.1)]
      · by_cases e : x' = x
        · rw [e]
          refine ⟨?_, fun y hy => ?_⟩
          · rw [u5 x (by omega), t2, gw2_2, if_pos ⟨rfl, rfl⟩]
          · rw [u6 _ (by omega), t4 y (by omega) hy]
            rfl
        · exact u4 x' (by omega) h2
      · rw [u5 i (by omega), t2, gw2_2, if_neg (by omega)]
      · rw [u6 i (by omega), t5 i (by omega)]
        rfl
theorem sl_191_11 {g : Nat} : ∀ (n x : Nat) (s : gx_S), 8 < n + x → x ≤ 8 → s.1 215 17 = 8 → ∃ u : gx_S, gm_191_11 n g x s = ((gm_159 8 9 u).bind fun q4 => gm_191_44 100000 g 0 q4) ∧ u.2 = s.2 ∧ (∀ k i, k ≠ 239 → u.1 k i = s.1 k i) ∧ ∀ j, u.1 239 j = if x ≤ j ∧ j < 8 then sg (fun r => s.2 224 (9 * r + j)) 8 else s.1 239 j := by
  intro n
  induction n with
  | zero => intro x s h; omega
  | succ n ih =>
    intro x s h hx e17
    rw [gm_191_11, if_pos (by omega)]
    by_cases q : x = 8
    · rw [if_pos (by omega)]
      exact ⟨s, rfl, rfl, fun _ _ _ => rfl, fun j => by rw [if_neg (by omega)]⟩
    · have ce : ((x : Int) + 1) = ((x + 1 : Nat) : Int) := rfl
      have i5 : ((x : Int)).toNat = x := by omega
      rw [if_neg (by omega), sp_183 (R := 8) e17 (by omega) (show x < 9 by omega), Option.bind_some, if_pos (by omega), i5, ce]
      obtain ⟨u, u1, u2, u3, u4⟩ := ih (x + 1) (gw1 s 239 x (sg (fun r => s.2 224 (9 * r + x)) 8)) (by omega) (by omega) (by rw [gw1_1, if_neg (by omega)]; exact e17)
      refine ⟨u, u1, u2, fun k i h1 => by rw [u3 k i h1, gw1_1, if_neg (fun x => h1 x.1)], fun j => ?_⟩
      rw [u4, gw1_1]
      by_cases y : j = x
      · rw [if_neg (by omega), if_pos ⟨rfl, y⟩, if_pos (by omega), y]
      · by_cases y2 : x + 1 ≤ j ∧ j < 8
        · rw [if_pos y2, if_pos (show x ≤ j ∧ j < 8 by omega)]
          rfl
        · rw [if_neg y2, if_neg (fun t => y t.2), if_neg (show ¬ (x ≤ j ∧ j < 8) by omega)]
/-- scratch of the reference alone -/
theorem KRw_of {s u : gx_S} (h1 : ∀ k j, ¬ (215 ≤ k) ∨ k = 216 ∨ k = 217 ∨ k = 218 ∨ (k = 215 ∧ (j = 2 ∨ j = 4)) ∨ (232 ≤ k ∧ k ≤ 235) → u.1 k j = s.1 k j) (h2 : ∀ k j, k ≠ 221 → u.2 k j = s.2 k j) : KRw s u := ⟨fun k j q => h1 k j (by omega), fun k j q => h2 k j (by omega), fun S => ⟨fun j hj => by rw [h1 232 j (by omega), h1 233 j (by omega), h1 234 j (by omega), h2 225 j (by decide)]; exact S.1 j hj, fun c hc => by rw [h1 235 c (by omega), h2 229 c (by decide), h2 230 c (by decide), h2 227 c (by decide), h2 228 c (by decide)]; exact S.2.1 c hc, fun k hk => by rw [h2 231 k (by decide)]; exact S.2.2 k hk⟩⟩
theorem sp_191 {s : gx_S} {R C g : Nat} (M : MP (s.1 216) R C) (h7 : s.1 216 2 = 7) (hg : g < 3) (S : SC s) : ∃ w : gx_S, gm_191 g s = some w ∧ KRw s w ∧ w.1 215 17 = 8 ∧ w.1 215 18 = 9 ∧ ∀ x y, x < 8 → y < 9 → w.2 224 (9 * x + y) = TB (s.1 216 3) (Pbk (s.1 216) R C g) (Abk (s.1 216) R C g) x y := by
  obtain ⟨a, b, a1, b1, a2, b2, b3, b4, b5⟩ := sp_181f M h7 hg S
  obtain ⟨c, c1, c2, c3, c4⟩ := sl_191_11 (g := g) 100000 0 b (by omega) (by omega) b3
  have c1 : gm_191_11 100000 g 0 b = _ := c1
  have cK : KRw b c := KRw_of (fun k j q => c3 k j (by omega)) fun k j _ => by rw [c2]
  obtain ⟨d, d1, d2, d3, d4, d5, d6, d7⟩ := KR_159 c 8 9
  have Kd : KRw s d := KRw_tr (KR_w b2) (KRw_tr cK (KR_w d2))
  obtain ⟨p1, p2⟩ := PA_bk M h7 hg
  have d39 : ∀ z, z < 8 → d.1 239 z = Pbk (s.1 216) R C g z := fun z hz => by
    rw [d6 239 z (by decide) (by decide), c4, if_pos (by omega)]
    exact sg_eq fun r hr => ((b5 r hr).2.2 z (by omega)).2
  obtain ⟨u, u1, u2, u3, u4, u5, u6⟩ := sl_191_44 M h7 hg p1.1 100000 0 d (by omega) (by omega) (KRw_216 Kd) d39
  have u1 : gm_191_44 100000 g 0 d = _ := u1
  have uK : KRw d u := KRw_of (fun k j q => u2 k j (by omega)) u3
  have Ku := KRw_tr Kd uK
  obtain ⟨w, w1, w2, w3, w4, w5, w6⟩ := TB_ref (md := s.1 216 3) (r := u) (R := 8) (m := 9) M.2.2.1 p1 (Ku.2.2 S) (by rw [u2 215 17 (by decide)]; exact d3) (by rw [u2 215 18 (by decide)]; exact d4) (by omega) (by omega) (fun _ => p2) (by rw [KRw_216 Ku]) (fun x hx => (u4 x (by omega) hx).1) (fun x y hx hy => (u4 x (by omega) hx).2 y hy) (fun x y hx hy hn => absurd ⟨hx, hy⟩ hn)
  refine ⟨w, ?_, KRw_tr Ku (KR_w (KR_rc w3 w4)), ?_, ?_, fun x y hx hy => w2 x y hx hy⟩
  · unfold gm_191
    rw [a1, Option.bind_some, b1, Option.bind_some, c1, d1, Option.bind_some, u1, w1, Option.bind_some]
  · rw [w3.1 215 17 (by decide) (by decide) (by decide) (by decide) (by decide), u2 215 17 (by decide)]
    exact d3
  · rw [w3.1 215 18 (by decide) (by decide) (by decide) (by decide) (by decide), u2 215 18 (by decide)]
    exact d4
theorem inv_returned {s : gx_S} (h : INV s) {x z : Int} (hx : i32 x) (hz : i32 z) : two s (gm_104 x z) (gm_192 x z) := by
  obtain ⟨f, R, C, n, pf, L, tb, c, r, v⟩ := id h
  have hx' := hx
  have hz' := hz
  unfold i32 at hx' hz'
  have c118 := sp_118 c.1 v.1 hx hz
  have c150 : ∀ t : gx_S, t.1 216 = f → gm_150 t = some (decide (f 2 = 7), t) := fun t et => by
    have := sp_150 (s := t) (by rw [et]; exact v.1.2.1)
    rw [et] at this
    exact this
  have s2 : ∀ y : gx_S, y.1 216 = f → gm_192 x z y = if (0 ≤ x ∧ x < 3) ∧ (0 ≤ z ∧ z ≤ 8) ∧ f 2 = 7 then ((gm_191 x y).bind fun q26 => (gm_183 z q26).bind fun q28 => some (q28.1, q28.2)) else some (-1, y) := fun y ey => by
    unfold gm_192
    rw [c150 y ey, Option.bind_some]
    by_cases h7 : f 2 = 7
    · rw [if_neg (fun q => (gbD s).mp q h7)]
      show ((gm_148 x y).bind _) = _
      rw [sp_148 y hx, Option.bind_some]
      by_cases a : 0 ≤ x ∧ x ≤ 2
      · rw [if_neg (fun q => (gbD s).mp q a), if_pos hz', in_ y hz (by omega) (by omega), Option.bind_some]
        by_cases b : 0 ≤ z ∧ z ≤ 8
        · rw [if_pos (fun q => (gbD s).mp q b), if_pos ⟨by omega, b, h7⟩]
        · rw [if_neg (fun q => q ((gbD s).mpr b)), if_neg (fun q => b q.2.1)]
      · rw [if_pos ((gbD s).mpr a), if_neg (fun q => a (by have := q.1; omega))]
    · rw [if_pos ((gbD s).mpr h7), if_neg (fun q => h7 q.2.2)]
  unfold two gm_104
  rw [c118, Option.bind_some]
  by_cases ok : (0 ≤ x ∧ x < 3) ∧ (0 ≤ z ∧ z ≤ 8) ∧ f 2 = 7
  · obtain ⟨a, b, h7⟩ := id ok
    obtain ⟨g, rfl⟩ : ∃ g : Nat, x = g := ⟨x.toNat, by omega⟩
    obtain ⟨z, rfl⟩ : ∃ z' : Nat, z = z' := ⟨z.toNat, by omega⟩
    have hg : g < 3 := by omega
    obtain ⟨D, u, u1, u2, u3, u4, u5, u6⟩ := CV_ready (w := 4) (by omega) v.1 h7 hg c
    have u1 : gm_19 (71 + 48 * g) 4 s = some u := u1
    have tm := u4.2.2.2.2.2.1 u5
    have kc : KC s u := KG_KC (ga_of hg) u3
    have ru := RV_KC kc r
    have eu : u.1 216 = f := ru.1
    obtain ⟨w, w1, w2, w3, w4, w5⟩ := sp_191 (s := u) (R := R) (C := C) (g := g) (by rw [eu]; exact v.1) (by rw [eu]; exact h7) hg ru.2.2.2.2
    rw [eu] at w5
    have s2 := s2 u eu
    rw [if_pos ok, w1, Option.bind_some, sp_183 (R := 8) w3 (by omega) (show z < 9 by omega), Option.bind_some] at s2
    rw [if_pos (fun q => (gbD s).mp q ok), if_pos a, Option.bind_some, vg_ g hg]
    show ∃ (r' : Int) (u' w : gx_S), ((gm_19 (71 + 48 * g) 4 s).bind _) = some (r', u') ∧ _
    rw [u1, Option.bind_some, sp_76 (ga_of hg).2.2.2.2.1 (show z < 9 by omega), Option.bind_some]
    refine ⟨_, u, w, rfl, ?_, q_inv kc u2 r v w2⟩
    rw [s2]
    have e : sg (fun x => w.2 224 (9 * x + z)) 8 = sg (fun x => u.1 (71 + 48 * g + 12 + 8) (9 * x + z)) 8 := sg_eq fun x hx => by
      rw [w5 x z hx (by omega), ((tm x hx).2.2 z (by omega)).2.2.2]
    show some (sg (fun x => w.2 224 (9 * x + z)) 8, w) = _
    rw [e]
  · rw [if_neg (fun q => q ((gbD s).mpr ok))]
    exact ⟨-1, s, s, rfl, (s2 s r.1).trans (if_neg ok), h⟩
