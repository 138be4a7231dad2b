/-! TABLES as numbers: what both sides lay and round for people P and amounts A -/
/-- the class's table with these people and amounts, and nothing else -/
def cc (P : Nat → Int) (A : Nat → Nat → Int) : gx_S := (fun k j => if k = 75 then P j else if k = 78 then A (j / 9) (j % 9) else if k = 79 then A (j / 9) (j % 9) else 0, fun _ _ => 0)
/-- the reference's -/
def rr0 (md : Int) (P : Nat → Int) (A : Nat → Nat → Int) : gx_S := (fun k j => if k = 222 then A (j / 9) (j % 9) else if k = 215 ∧ j = 17 then 8 else if k = 215 ∧ j = 18 then 9 else if k = 216 then md else 0, fun k j => if k = 221 then P j else 0)
def TB (md : Int) (P : Nat → Int) (A : Nat → Nat → Int) (x y : Nat) : Int := match gm_41 74 md (cc P A) with
  | some u => u.1 82 (9 * x + y)
  | none => 0
def PA (P : Nat → Int) (A : Nat → Nat → Int) : Prop := (∀ x, x < 8 → 0 ≤ P x ∧ P x ≤ 100000000) ∧ (∀ x y, x < 8 → y < 9 → 0 ≤ A x y ∧ A x y ≤ 1000000) ∧ sg (fun x => sg (fun y => A x y) 9) 8 ≤ 1000000
theorem am_of {c : gx_S} {t x : Nat} {A : Nat → Nat → Int} (h : ∀ y, y < 9 → am c t x y = A x y) : aw c t x = sg (fun y => A x y) 9 := sg_eq h
theorem cc_am (P : Nat → Int) (A : Nat → Nat → Int) {x y : Nat} (hy : y < 9) : am (cc P A) 74 x y = A x y := by
  have e4 : ∀ y, y < 9 → (cc P A).1 (74 + 4) (9 * x + y) = A x y := fun y hy => by
    show A ((9 * x + y) / 9) ((9 * x + y) % 9) = _
    rw [show (9 * x + y) / 9 = x by omega, show (9 * x + y) % 9 = y by omega]
  have e5 : ∀ y, y < 9 → (cc P A).1 (74 + 5) (9 * x + y) = A x y := fun y hy => by
    show A ((9 * x + y) / 9) ((9 * x + y) % 9) = _
    rw [show (9 * x + y) / 9 = x by omega, show (9 * x + y) % 9 = y by omega]
  unfold am
  rw [e4 y hy, e5 y hy]
  split <;> rfl
theorem tf_of {c : gx_S} {t : Nat} {P : Nat → Int} {A : Nat → Nat → Int} (h : PA P A) (hp : ∀ x, x < 8 → c.1 (t + 1) x = P x) (hb : ∀ i, i < 72 → (0 ≤ c.1 (t + 4) i ∧ c.1 (t + 4) i ≤ 1000000) ∧ (0 ≤ c.1 (t + 5) i ∧ c.1 (t + 5) i ≤ 1000000)) (ha : ∀ x y, x < 8 → y < 9 → am c t x y = A x y) : tf c t := by
  refine ⟨fun r hr => ⟨by rw [hp r hr]; exact h.1 r hr, fun c hc => hb _ (by omega)⟩, ?_⟩
  rw [sg_eq (g := fun x => sg (fun y => A x y) 9) fun x hx => am_of fun y hy => ha x y hx hy]
  exact h.2.2
theorem cc_tf {P : Nat → Int} {A : Nat → Nat → Int} (h : PA P A) : tf (cc P A) 74 :=
  tf_of h (fun _ _ => rfl) (fun i hi => ⟨h.2.1 (i / 9) (i % 9) (by omega) (by omega), h.2.1 (i / 9) (i % 9) (by omega) (by omega)⟩) fun x y _ hy => cc_am P A hy
theorem rr0_SC (md : Int) (P : Nat → Int) (A : Nat → Nat → Int) : SC (rr0 md P A) :=
  ⟨fun j _ => ⟨.inl rfl, .inl rfl, .inl rfl, by show (0 : Int) ≤ 0 ∧ (0 : Int) ≤ 1000000000; omega⟩, fun c _ => ⟨.inl rfl, by show (-900 : Int) ≤ 0 ∧ (0 : Int) ≤ 900; omega, by show (-1000 : Int) ≤ 0 ∧ (0 : Int) ≤ 1000; omega, by show (0 : Int) ≤ 0 ∧ (0 : Int) ≤ 9; omega, by show (0 : Int) ≤ 0 ∧ (0 : Int) ≤ 9; omega⟩, fun k _ => by show (-1000 : Int) ≤ 0 ∧ (0 : Int) ≤ 1000; omega⟩
theorem rr0_AL {md : Int} {P : Nat → Int} {A : Nat → Nat → Int} {c : gx_S} {t : Nat} (hp : ∀ x, x < 8 → c.1 (t + 1) x = P x) (ha : ∀ x y, x < 8 → y < 9 → am c t x y = A x y) : AL c (rr0 md P A) t 8 9 := by
  refine ⟨rfl, rfl, Nat.le_refl 8, Nat.le_refl 9, fun x hx => (hp x hx).symm, fun x y hx hy => ?_, fun x y hx hy hn => absurd ⟨hx, hy⟩ hn⟩
  rw [ha x y hx hy]
  show A ((9 * x + y) / 9) ((9 * x + y) % 9) = _
  rw [show (9 * x + y) / 9 = x by omega, show (9 * x + y) % 9 = y by omega]
/-- the class's round lays it -/
theorem TB_class {md : Int} {P : Nat → Int} {A : Nat → Nat → Int} {c : gx_S} {t : Nat} (ht : fx_oc t 7 = true) (hmd : md = 0 ∨ md = 1) (h : PA P A) (h8 : md = 1 → sg (fun x => sg (fun y => A x y) 9) 8 ≤ 864) (hp : ∀ x, x < 8 → c.1 (t + 1) x = P x) (hb : ∀ i, i < 72 → (0 ≤ c.1 (t + 4) i ∧ c.1 (t + 4) i ≤ 1000000) ∧ (0 ≤ c.1 (t + 5) i ∧ c.1 (t + 5) i ≤ 1000000)) (ha : ∀ x y, x < 8 → y < 9 → am c t x y = A x y) : ∃ u : gx_S, gm_41 t md c = some u ∧ (∀ x y, x < 8 → y < 9 → u.1 (t + 8) (9 * x + y) = TB md P A x y) ∧ ro7 t c u ∧ (∀ x, x < 8 → u.1 (t + 2) x = sg (fun y => A x y) 9 ∧ ∀ y, y < 9 → u.1 (t + 4) (9 * x + y) = A x y ∧ u.1 (t + 6) (9 * x + y) = af c t x y ∧ u.1 (t + 7) (9 * x + y) = ar c t x y) ∧ (∀ x y, x < 8 → y < 9 → 0 ≤ TB md P A x y ∧ TB md P A x y ≤ 100000009) ∧ (∀ x, x < 8 → sg (fun y => TB md P A x y) 9 = if sg (fun y => A x y) 9 ≤ 0 then 0 else P x) ∧ ∀ x, x < 8 → u.1 (t + 3) x = pl c t x := by
  have ft := tf_of h hp hb ha
  obtain ⟨u, w, u1, w1, e1, _, e2, e3, _, _, _, e4, e5⟩ := tab_eq ht ft (fun q => by rw [sg_eq (g := fun x => sg (fun y => A x y) 9) fun x hx => am_of fun y hy => ha x y hx hy]; exact h8 q) (rr0_AL (md := md) hp ha) (rr0_SC md P A) (show (rr0 md P A).1 216 3 = md from rfl) hmd
  obtain ⟨u', w', u1', w1', e1', _⟩ := tab_eq (t := 74) (by decide +kernel) (cc_tf h) (fun q => by rw [sg_eq (g := fun x => sg (fun y => A x y) 9) fun x hx => am_of fun y hy => cc_am P A hy]; exact h8 q) (rr0_AL (md := md) (fun _ _ => rfl) fun x y _ hy => cc_am P A hy) (rr0_SC md P A) (show (rr0 md P A).1 216 3 = md from rfl) hmd
  have ew : w' = w := Option.some.inj (w1'.symm.trans w1)
  have T : ∀ x y, x < 8 → y < 9 → TB md P A x y = u.1 (t + 8) (9 * x + y) := fun x y hx hy => by
    unfold TB
    rw [u1']
    show u'.1 82 (9 * x + y) = _
    rw [e1 x y hx hy, ← ew]
    exact e1' x y hx hy
  refine ⟨u, u1, fun x y hx hy => (T x y hx hy).symm, e2, fun x hx => ?_, fun x y hx hy => ?_, fun x hx => ?_, e5⟩
  · obtain ⟨a1, a2⟩ := e3 x hx
    refine ⟨a1.trans (am_of fun y hy => ha x y hx hy), fun y hy => ?_⟩
    obtain ⟨b1, b2, b3, b4⟩ := a2 y hy
    exact ⟨b1.trans (ha x y hx hy), b2, b3⟩
  · obtain ⟨b1, b2, b3, b4⟩ := (e3 x hx).2 y hy
    have r := af_r ft hx hy
    rw [T x y hx hy]
    omega
  · rw [sg_eq (g := fun y => u.1 (t + 8) (9 * x + y)) fun y hy => T x y hx hy, e4 x hx, am_of (A := A) fun y hy => ha x y hx hy, hp x hx]
/-- the reference's fills lays it -/
theorem TB_ref {md : Int} {P : Nat → Int} {A : Nat → Nat → Int} {r : gx_S} {R m : Nat} (hmd : md = 0 ∨ md = 1) (h : PA P A) (S : SC r) (h17 : r.1 215 17 = R) (h18 : r.1 215 18 = m) (R8 : R ≤ 8) (m9 : m ≤ 9) (h8 : md = 1 → sg (fun x => sg (fun y => A x y) 9) 8 ≤ 864) (h3 : r.1 216 3 = md) (hp : ∀ x, x < R → r.2 221 x = P x) (ha : ∀ x y, x < R → y < m → r.1 222 (9 * x + y) = A x y) (h0 : ∀ x y, x < 8 → y < 9 → ¬ (x < R ∧ y < m) → A x y = 0) : ∃ w : gx_S, gm_173 r = some w ∧ (∀ x y, x < R → y < m → w.2 224 (9 * x + y) = TB md P A x y) ∧ rc r w ∧ SC w ∧ (∀ x, x < R → w.1 223 x = sg (fun y => A x y) 9) ∧ ∀ x y, x < 8 → y < 9 → ¬ (x < R ∧ y < m) → TB md P A x y = 0 := by
  obtain ⟨u, w, u1, w1, e1, e0, _, _, e2, e3, e4, _⟩ := tab_eq (t := 74) (by decide +kernel) (cc_tf h) (fun q => by rw [sg_eq (g := fun x => sg (fun y => A x y) 9) fun x hx => am_of fun y hy => cc_am P A hy]; exact h8 q) (show AL (cc P A) r 74 R m from ⟨h17, h18, R8, m9, hp, fun x y hx hy => by rw [ha x y hx hy, cc_am P A (by omega)], fun x y hx hy hn => by rw [cc_am P A hy, h0 x y hx hy hn]⟩) S h3 hmd
  have T : ∀ x y, TB md P A x y = u.1 82 (9 * x + y) := fun x y => by
    unfold TB
    rw [u1]
  exact ⟨w, w1, fun x y hx hy => by rw [T]; exact (e1 x y hx hy).symm, e2, e3, fun x hx => (e4 x hx).trans (am_of fun y hy => cc_am P A hy), fun x y hx hy hn => by rw [T]; exact e0 x y hx hy hn⟩
