/-! THE CLASS: the moves -/
theorem SO_pz {f : Nat → Int} {R C g x y : Nat} (M : MP f R C) (h7 : f 2 = 7) (hx : x < 8) (b : Bool) : SO f R C g x y b = sg (pz (fun k => decide (co f C 0 k < 8)) (co f C 0) (co f C 1) (fun k => if b = true then 1 else wt f C g k) x y) (R * C) := by
  refine sg_eq fun k hk => ?_
  obtain ⟨⟨c0, _⟩, ⟨c1, _⟩, _⟩ := co_s M h7 hk
  unfold pz
  rw [c0, c1]
  by_cases q : co f C 0 k = x ∧ co f C 1 k = y
  · rw [if_pos (show (((x : Nat) : Int) = -1 ∨ (co f C 0 k : Int) = x) ∧ (((y : Nat) : Int) = -1 ∨ (co f C 1 k : Int) = y) by omega), if_pos (show decide (co f C 0 k < 8) = true ∧ co f C 0 k = x ∧ co f C 1 k = y from ⟨decide_eq_true (by omega), q⟩)]
    rfl
  · rw [if_neg (show ¬ ((((x : Nat) : Int) = -1 ∨ (co f C 0 k : Int) = x) ∧ (((y : Nat) : Int) = -1 ∨ (co f C 1 k : Int) = y)) by omega), if_neg (fun h => q h.2)]
theorem SO_row {f : Nat → Int} {R C g : Nat} (M : MP f R C) (h7 : f 2 = 7) (o : Int) (b : Bool) : sg (fun y => SO f R C g o ((y : Nat) : Int) b) 9 = SO f R C g o (-1) b := by
  unfold SO
  rw [sg_swap (fun y k => if (o = -1 ∨ f (52 + 96 * 0 + 12 * (k / C) + k % C) = o) ∧ (((y : Nat) : Int) = -1 ∨ f (52 + 96 * 1 + 12 * (k / C) + k % C) = ((y : Nat) : Int)) then (if b = true then 1 else f (32 + 4 * g + (f (52 + 96 * 2 + 12 * (k / C) + k % C)).toNat)) else 0) (R * C) 9]
  refine sg_eq fun k hk => ?_
  obtain ⟨_, ⟨c1, l1⟩, _⟩ := co_s M h7 hk
  rw [sg_single (i := co f C 1 k) (by omega) fun y hy hn => if_neg fun h => by
    have := h.2
    omega]
  by_cases q : o = -1 ∨ f (52 + 96 * 0 + 12 * (k / C) + k % C) = o
  · rw [if_pos (show (o = -1 ∨ f (52 + 96 * 0 + 12 * (k / C) + k % C) = o) ∧ (((co f C 1 k : Nat) : Int) = -1 ∨ f (52 + 96 * 1 + 12 * (k / C) + k % C) = ((co f C 1 k : Nat) : Int)) from ⟨q, .inr c1⟩), if_pos (show (o = -1 ∨ f (52 + 96 * 0 + 12 * (k / C) + k % C) = o) ∧ ((-1 : Int) = -1 ∨ f (52 + 96 * 1 + 12 * (k / C) + k % C) = -1) from ⟨q, .inl rfl⟩)]
  · rw [if_neg (show ¬ ((o = -1 ∨ f (52 + 96 * 0 + 12 * (k / C) + k % C) = o) ∧ (((co f C 1 k : Nat) : Int) = -1 ∨ f (52 + 96 * 1 + 12 * (k / C) + k % C) = ((co f C 1 k : Nat) : Int))) from fun h => q h.1), if_neg (show ¬ ((o = -1 ∨ f (52 + 96 * 0 + 12 * (k / C) + k % C) = o) ∧ ((-1 : Int) = -1 ∨ f (52 + 96 * 1 + 12 * (k / C) + k % C) = -1)) from fun h => q h.1)]
def flv (P : Nat → Int) (A : Nat → Nat → Int) (x y : Nat) : Int := if sg (fun y => A x y) 9 ≤ 0 then 0 else P x * A x y / sg (fun y => A x y) 9
def rsv (P : Nat → Int) (A : Nat → Nat → Int) (x y : Nat) : Int := if sg (fun y => A x y) 9 ≤ 0 then 0 else P x * A x y % sg (fun y => A x y) 9
/-- a table of the class is as people P and amounts A want it -/
def TR (s : gx_S) (t : Nat) (md : Int) (P : Nat → Int) (A : Nat → Nat → Int) : Prop := ∀ x, x < 8 → s.1 (t + 1) x = P x ∧ s.1 (t + 2) x = sg (fun y => A x y) 9 ∧ ∀ y, y < 9 → s.1 (t + 4) (9 * x + y) = A x y ∧ s.1 (t + 6) (9 * x + y) = flv P A x y ∧ s.1 (t + 7) (9 * x + y) = rsv P A x y ∧ s.1 (t + 8) (9 * x + y) = TB md P A x y
theorem TR_class {md : Int} {P : Nat → Int} {A : Nat → Nat → Int} {c : gx_S} {t : Nat} (ht : fx_oc t 7 = true) (hmd : md = 0 ∨ md = 1) (h : PA P A) (h8 : md = 1 → sg (fun x => sg (fun y => A x y) 9) 8 ≤ 864) (hp : ∀ x, x < 8 → c.1 (t + 1) x = P x) (hb : ∀ i, i < 72 → (0 ≤ c.1 (t + 4) i ∧ c.1 (t + 4) i ≤ 1000000) ∧ (0 ≤ c.1 (t + 5) i ∧ c.1 (t + 5) i ≤ 1000000)) (ha : ∀ x y, x < 8 → y < 9 → am c t x y = A x y) : ∃ u : gx_S, gm_41 t md c = some u ∧ TR u t md P A ∧ ro7 t c u ∧ ∀ x, x < 8 → u.1 (t + 3) x = pl c t x := by
  have t14 := oc7_14 ht
  obtain ⟨u, u1, u2, u3, u4, u5, u6, u7⟩ := TB_class ht hmd h h8 hp hb ha
  refine ⟨u, u1, fun x hx => ?_, u3, u7⟩
  obtain ⟨a1, a2⟩ := u4 x hx
  refine ⟨by rw [u3.2 _ _ (by omega) (by omega) (by omega) (by omega)]; exact hp x hx, a1, fun y hy => ?_⟩
  obtain ⟨b1, b2, b3⟩ := a2 y hy
  have e : aw c t x = sg (fun y => A x y) 9 := am_of fun y hy => ha x y hx hy
  refine ⟨b1, ?_, ?_, u2 x y hx hy⟩
  · rw [b2]
    unfold af flv
    rw [e, hp x hx, ha x y hx hy]
  · rw [b3]
    unfold ar rsv
    rw [e, hp x hx, ha x y hx hy]
theorem TR_o {s u : gx_S} {t : Nat} {md : Int} {P : Nat → Int} {A : Nat → Nat → Int} (o : ∀ k j, t < k → k < t + 9 → u.1 k j = s.1 k j) (h : TR s t md P A) : TR u t md P A := fun x hx => by
  obtain ⟨a1, a2, a3⟩ := h x hx
  refine ⟨by rw [o _ _ (by omega) (by omega)]; exact a1, by rw [o _ _ (by omega) (by omega)]; exact a2, fun y hy => ?_⟩
  obtain ⟨b1, b2, b3, b4⟩ := a3 y hy
  exact ⟨by rw [o _ _ (by omega) (by omega)]; exact b1, by rw [o _ _ (by omega) (by omega)]; exact b2, by rw [o _ _ (by omega) (by omega)]; exact b3, by rw [o _ _ (by omega) (by omega)]; exact b4⟩
/-- the moves: with rows told that have no weight -/
def TM (s : gx_S) (t : Nat) (f : Nat → Int) (R C g : Nat) : Prop := TR s t (f 3) (LV f R C g) (PMV f R C g) ∧ ∀ x, x < 8 → s.1 (t + 3) x = if SO f R C g x (-1) false = 0 then 1 else 0
theorem TM_o {s u : gx_S} {t : Nat} {f : Nat → Int} {R C g : Nat} (o : ∀ k j, t < k → k < t + 9 → u.1 k j = s.1 k j) (h : TM s t f R C g) : TM u t f R C g := ⟨TR_o o h.1, fun x hx => by rw [o _ _ (by omega) (by omega)]; exact h.2 x hx⟩
/-- what has been added up is what the reference sums -/
theorem am_SO {s : gx_S} {f : Nat → Int} {R C g t : Nat} {T : Nat → Nat → Int} {x y : Nat} (F : Nat → Nat → Bool → Int) (e4 : ∀ y, y < 9 → s.1 (t + 4) (9 * x + y) = F x y false) (e5 : ∀ y, y < 9 → s.1 (t + 5) (9 * x + y) = F x y true) (hy : y < 9) (hT : T x y = F x y (decide (sg (fun y => F x y false) 9 = 0))) : am s t x y = T x y := by
  unfold am
  have es : sg (fun c => s.1 (t + 4) (9 * x + c)) 9 = sg (fun y => F x y false) 9 := sg_eq fun y hy => e4 y hy
  rw [es, hT, e4 y hy, e5 y hy]
  by_cases z : sg (fun y => F x y false) 9 = 0
  · rw [if_pos z, decide_eq_true z]
  · rw [if_neg z, decide_eq_false z]
theorem sp_23 {s : gx_S} {f : Nat → Int} {R C g a : Nat} (m : MR s 1 f R C) (M : MP f R C) (h7 : f 2 = 7) (hg : g < 3) (h71 : 71 ≤ a) (ho : fx_oc a 2 = true) (ht : fx_oc (a + 3) 7 = true) (e9 : s.1 a 9 = g) (hl : ∀ z, z < 8 → s.1 (a + 1) z = LV f R C g z) : ∃ u w : gx_S, gm_23 a s = some u ∧ u.1 1 7 = f 3 ∧ gm_41 (a + 3) (f 3) u = some w ∧ TM w (a + 3) f R C g ∧ w.2 = s.2 ∧ ∀ k j, ¬ (7 ≤ k ∧ k ≤ 13) → ¬ (k = 6 ∧ j = 7) → ¬ (a + 4 ≤ k ∧ k ≤ a + 11) → w.1 k j = s.1 k j := by
  obtain ⟨b, b1, b2, b3, b4, b5⟩ := sp_68 s ht
  obtain ⟨c, hc⟩ : ∃ c, c = gcp b (a + 1) 0 (a + 3 + 1) 0 8 := ⟨_, rfl⟩
  have ck : ∀ k i, k ≠ a + 3 + 1 → c.1 k i = b.1 k i := fun k i h => by
    rw [hc]
    exact if_neg fun x => h x.1
  have c1 : ∀ x, x < 8 → c.1 (a + 3 + 1) x = LV f R C g x := fun x hx => by
    rw [hc]
    show (if a + 3 + 1 = a + 3 + 1 ∧ 0 ≤ x ∧ x < 0 + 8 then b.1 (a + 1) (0 + (x - 0)) else b.1 (a + 3 + 1) x) = _
    rw [if_pos ⟨rfl, by omega, by omega⟩, show 0 + (x - 0) = x by omega, b5 _ _ (by omega) (by omega) (by omega)]
    exact hl x hx
  have mc : MR c 1 f R C := MR_o (fun k j h1 h2 => (ck k j (by omega)).trans (b5 k j (by omega) (by omega) (by omega))) m
  have c9 : c.1 a 9 = g := by rw [ck _ _ (by omega), b5 _ _ (by omega) (by omega) (by omega)]; exact e9
  have hRC := RC_96 M.1.2.2.1 M.1.2.2.2
  obtain ⟨u, u1, u2, u3, u4⟩ := sl_23 M h7 hg h71 ht (R * C) 0 100000 c (by omega) (by omega) mc c9
  have u1 : gm_23_35 100000 a ((R * C : Nat) : Int) 0 c = some u := u1
  have e45 : ∀ x y, x < 8 → y < 9 → u.1 (a + 3 + 4) (9 * x + y) = SO f R C g x y false ∧ u.1 (a + 3 + 5) (9 * x + y) = SO f R C g x y true := fun x y hx hy => by
    obtain ⟨q1, q2⟩ := u4 x y hx hy
    have z := b4 (9 * x + y) (by omega)
    rw [ck _ _ (by omega), z.1] at q1
    rw [ck _ _ (by omega), z.2] at q2
    rw [q1, q2, SO_pz M h7 hx false, SO_pz M h7 hx true]
    constructor
    · rw [Int.zero_add]
      exact sg_eq fun k _ => by rw [Nat.zero_add]; rfl
    · rw [Int.zero_add]
      exact sg_eq fun k _ => by rw [Nat.zero_add]; rfl
  obtain ⟨pa, p8⟩ := PA_mv M h7 hg
  have hb : ∀ i, i < 72 → (0 ≤ u.1 (a + 3 + 4) i ∧ u.1 (a + 3 + 4) i ≤ 1000000) ∧ (0 ≤ u.1 (a + 3 + 5) i ∧ u.1 (a + 3 + 5) i ≤ 1000000) := fun i hi => by
    have e : 9 * (i / 9) + i % 9 = i := by omega
    have q := e45 (i / 9) (i % 9) (by omega) (by omega)
    rw [e] at q
    rw [q.1, q.2]
    have r1 := SO_r M h7 hg ((i / 9 : Nat) : Int) ((i % 9 : Nat) : Int) false
    have r2 := SO_r M h7 hg ((i / 9 : Nat) : Int) ((i % 9 : Nat) : Int) true
    omega
  obtain ⟨w, w1, w2, w3, w4⟩ := TR_class (t := a + 3) ht M.2.2.1 pa (fun _ => p8) (fun x hx => (u3 _ _ (by omega) (by omega)).trans (c1 x hx)) hb fun x y hx hy => am_SO (T := PMV f R C g) (R := R) (C := C) (f := f) (g := g) (fun x y b => SO f R C g x y b) (fun y hy => (e45 x y hx hy).1) (fun y hy => (e45 x y hx hy).2) hy (by
    unfold PMV
    rw [SO_row M h7 (x : Int) false])
  refine ⟨u, w, ?_, ?_, w1, ⟨w2, fun x hx => ?_⟩, ?_, fun k j h1 h2 h3 => ?_⟩
  · unfold gm_23
    rw [if_pos ho, b1, Option.bind_some, ← hc, sp_58 (MR_cz mc M), Option.bind_some, u1]
  · rw [u3 1 7 (by omega) (by omega)]
    exact mc.2.2.2.1
  · rw [w4 x hx]
    unfold pl
    rw [sg_eq (f := fun y => u.1 (a + 3 + 4) (9 * x + y)) (g := fun y => SO f R C g x ((y : Nat) : Int) false) fun y hy => (e45 x y hx hy).1, SO_row M h7 (x : Int) false]
  · rw [w3.1, u2, hc]
    exact b2
  · rw [w3.2 k j h1 h2 (by omega) (by omega), u3 k j (by omega) (by omega), ck k j (by omega), b5 k j (by omega) (by omega) (by omega)]
