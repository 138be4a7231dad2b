section
/-! THE CLASS: tables filled from the cells -/
def co (f : Nat → Int) (C l k : Nat) : Nat := (f (52 + 96 * l + 12 * (k / C) + k % C)).toNat
def wt (f : Nat → Int) (C g k : Nat) : Int := f (32 + 4 * g + co f C 2 k)
theorem co_s {f : Nat → Int} {R C k : Nat} (M : MP f R C) (h7 : f 2 = 7) (hk : k < R * C) : (f (52 + 96 * 0 + 12 * (k / C) + k % C) = (co f C 0 k : Int) ∧ co f C 0 k ≤ 8) ∧ (f (52 + 96 * 1 + 12 * (k / C) + k % C) = (co f C 1 k : Int) ∧ co f C 1 k ≤ 8) ∧ (f (52 + 96 * 2 + 12 * (k / C) + k % C) = (co f C 2 k : Int) ∧ co f C 2 k ≤ 3) := by
  have m8 := M.2.2.2.2.2.2.2.1
  have a0 := m8 0 (by omega) (by rw [h7]; rfl) k hk
  have a1 := m8 1 (by omega) (by rw [h7]; rfl) k hk
  have a2 := m8 2 (by omega) (by rw [h7]; rfl) k hk
  rw [if_neg (by omega)] at a0 a1
  rw [if_pos rfl] at a2
  unfold co
  omega
theorem wt_b {f : Nat → Int} {R C g k : Nat} (M : MP f R C) (h7 : f 2 = 7) (hg : g < 3) (hk : k < R * C) : 0 ≤ wt f C g k ∧ wt f C g k ≤ 9 := by
  have c := (co_s M h7 hk).2.2.2
  unfold wt
  rw [show 32 + 4 * g + co f C 2 k = 32 + (4 * g + co f C 2 k) by omega]
  exact M.2.2.2.2.2.1 _ (by omega)
theorem sp_60g {s : gx_S} {f : Nat → Int} {R C k : Nat} (m : MR s 1 f R C) (M : MP f R C) (h7 : f 2 = 7) (hk : k < R * C) : gm_60 1 0 k s = some ((co f C 0 k : Int), s) ∧ gm_60 1 1 k s = some ((co f C 1 k : Int), s) ∧ gm_60 1 2 k s = some ((co f C 2 k : Int), s) := by
  have hRC := RC_96 M.1.2.2.1 M.1.2.2.2
  obtain ⟨c0, c1, c2⟩ := co_s M h7 hk
  have m9 := m.2.2.2.2.2.2.2.2
  refine ⟨?_, ?_, ?_⟩
  · have c : gm_60 1 0 k s = _ := sp_60 (s := s) (a := 1) (by decide +kernel) 0 k (by omega) (by omega)
    rw [c, m9 0 (by omega) (by rw [h7]; rfl) k hk, c0.1]
  · have c : gm_60 1 1 k s = _ := sp_60 (s := s) (a := 1) (by decide +kernel) 1 k (by omega) (by omega)
    rw [c, m9 1 (by omega) (by rw [h7]; rfl) k hk, c1.1]
  · have c : gm_60 1 2 k s = _ := sp_60 (s := s) (a := 1) (by decide +kernel) 2 k (by omega) (by omega)
    rw [c, m9 2 (by omega) (by rw [h7]; rfl) k hk, c2.1]
theorem sp_61g {s : gx_S} {f : Nat → Int} {R C g k : Nat} (m : MR s 1 f R C) (M : MP f R C) (h7 : f 2 = 7) (hg : g < 3) (hk : k < R * C) : gm_61 1 g k s = some (wt f C g k, s) := by
  have c := (co_s M h7 hk).2.2.2
  unfold gm_61
  rw [if_pos (by decide +kernel), (sp_60g m M h7 hk).2.2, Option.bind_some, if_pos (by omega)]
  have i : ((((g : Int) * 4) + ((co f C 2 k : Int), s).1)).toNat = 4 * g + co f C 2 k := by
    show ((g : Int) * 4 + (co f C 2 k : Int)).toNat = _
    omega
  rw [i]
  have e := m.2.2.2.2.2.2.1 (4 * g + co f C 2 k) (by omega)
  show some (s.1 (1 + 3) (4 * g + co f C 2 k), s) = _
  rw [e]
  unfold wt
  rw [show 32 + (4 * g + co f C 2 k) = 32 + 4 * g + co f C 2 k by omega]
theorem sg_shift (F : Nat → Int) : ∀ (n k : Nat), sg (fun i => F (k + i)) (n + 1) = F k + sg (fun i => F (k + 1 + i)) n
  | 0, k => by
    show 0 + F (k + 0) = F k + 0
    rw [Nat.add_zero]
    omega
  | n + 1, k => by
    have a := sg_shift F n k
    show sg (fun i => F (k + i)) (n + 1) + F (k + (n + 1)) = F k + (sg (fun i => F (k + 1 + i)) n + F (k + 1 + n))
    rw [a, show k + (n + 1) = k + 1 + n by omega]
    omega
/-- a cell's share of an entry -/
def pz (K : Nat → Bool) (X Y : Nat → Nat) (w : Nat → Int) (x y k : Nat) : Int := if K k = true ∧ X k = x ∧ Y k = y then w k else 0
/-- a table has been added to -/
def AC (t : Nat) (s u : gx_S) (F4 F5 : Nat → Nat → Int) : Prop := u.2 = s.2 ∧ (∀ k i, k ≠ t + 4 → k ≠ t + 5 → u.1 k i = s.1 k i) ∧ ∀ x y, x < 8 → y < 9 → u.1 (t + 4) (9 * x + y) = s.1 (t + 4) (9 * x + y) + F4 x y ∧ u.1 (t + 5) (9 * x + y) = s.1 (t + 5) (9 * x + y) + F5 x y
theorem AC_0 (t : Nat) (s : gx_S) (F4 F5 : Nat → Nat → Nat → Int) : AC t s s (fun x y => sg (F4 x y) 0) (fun x y => sg (F5 x y) 0) := ⟨rfl, fun _ _ _ _ => rfl, fun x y _ _ => ⟨(Int.add_zero _).symm, (Int.add_zero _).symm⟩⟩
theorem AC_skip {t k r : Nat} {s u : gx_S} {K : Nat → Bool} {X Y : Nat → Nat} {w : Nat → Int} (hK : K k = false) (h : AC t s u (fun x y => sg (fun i => pz K X Y w x y (k + 1 + i)) r) (fun x y => sg (fun i => pz K X Y (fun _ => 1) x y (k + 1 + i)) r)) : AC t s u (fun x y => sg (fun i => pz K X Y w x y (k + i)) (r + 1)) (fun x y => sg (fun i => pz K X Y (fun _ => 1) x y (k + i)) (r + 1)) := by
  have z : ∀ (v : Nat → Int) x y, pz K X Y v x y k = 0 := fun v x y => if_neg fun h => by
    rw [hK] at h
    exact Bool.noConfusion h.1
  obtain ⟨h1, h2, h3⟩ := h
  refine ⟨h1, h2, fun x y hx hy => ?_⟩
  obtain ⟨a, b⟩ := h3 x y hx hy
  have a : u.1 (t + 4) (9 * x + y) = s.1 (t + 4) (9 * x + y) + sg (fun i => pz K X Y w x y (k + 1 + i)) r := a
  have b : u.1 (t + 5) (9 * x + y) = s.1 (t + 5) (9 * x + y) + sg (fun i => pz K X Y (fun _ => 1) x y (k + 1 + i)) r := b
  show u.1 (t + 4) (9 * x + y) = s.1 (t + 4) (9 * x + y) + sg (fun i => pz K X Y w x y (k + i)) (r + 1) ∧ u.1 (t + 5) (9 * x + y) = s.1 (t + 5) (9 * x + y) + sg (fun i => pz K X Y (fun _ => 1) x y (k + i)) (r + 1)
  rw [sg_shift (pz K X Y w x y), sg_shift (pz K X Y (fun _ => 1) x y), z, z, a, b]
  omega
theorem AC_add {t k r : Nat} {s u : gx_S} {K : Nat → Bool} {X Y : Nat → Nat} {w : Nat → Int} (hK : K k = true) (hX : X k < 8) (hY : Y k < 9) (h : AC t (adt s t (X k) (Y k) (w k) 1) u (fun x y => sg (fun i => pz K X Y w x y (k + 1 + i)) r) (fun x y => sg (fun i => pz K X Y (fun _ => 1) x y (k + 1 + i)) r)) : AC t s u (fun x y => sg (fun i => pz K X Y w x y (k + i)) (r + 1)) (fun x y => sg (fun i => pz K X Y (fun _ => 1) x y (k + i)) (r + 1)) := by
  obtain ⟨h1, h2, h3⟩ := h
  refine ⟨h1, fun k' i q1 q2 => (h2 k' i q1 q2).trans (adt_o _ _ _ _ _ _ _ _ q1 q2), fun x y hx hy => ?_⟩
  obtain ⟨a, b⟩ := h3 x y hx hy
  have a : u.1 (t + 4) (9 * x + y) = (adt s t (X k) (Y k) (w k) 1).1 (t + 4) (9 * x + y) + sg (fun i => pz K X Y w x y (k + 1 + i)) r := a
  have b : u.1 (t + 5) (9 * x + y) = (adt s t (X k) (Y k) (w k) 1).1 (t + 5) (9 * x + y) + sg (fun i => pz K X Y (fun _ => 1) x y (k + 1 + i)) r := b
  show u.1 (t + 4) (9 * x + y) = s.1 (t + 4) (9 * x + y) + sg (fun i => pz K X Y w x y (k + i)) (r + 1) ∧ u.1 (t + 5) (9 * x + y) = s.1 (t + 5) (9 * x + y) + sg (fun i => pz K X Y (fun _ => 1) x y (k + i)) (r + 1)
  rw [sg_shift (pz K X Y w x y), sg_shift (pz K X Y (fun _ => 1) x y), a, b, adt_4, adt_5]
  unfold pz
  by_cases q : X k = x ∧ Y k = y
  · rw [if_pos (show 9 * x + y = 9 * X k + Y k by omega), if_pos (show 9 * x + y = 9 * X k + Y k by omega), if_pos ⟨hK, q⟩, if_pos ⟨hK, q⟩]
    show _ ∧ s.1 (t + 5) (9 * x + y) + 1 + _ = s.1 (t + 5) (9 * x + y) + (1 + _)
    omega
  · rw [if_neg (show ¬ 9 * x + y = 9 * X k + Y k by omega), if_neg (show ¬ 9 * x + y = 9 * X k + Y k by omega), if_neg (fun h => q h.2), if_neg (fun h => q h.2)]
    omega
theorem MR_adt {s : gx_S} {f : Nat → Int} {R C t x y : Nat} {v w : Int} (ht : 5 < t) (m : MR s 1 f R C) : MR (adt s t x y v w) 1 f R C := MR_o (fun k j h1 h2 => adt_o _ _ _ _ _ _ _ _ (by omega) (by omega)) m
theorem sl_23 {f : Nat → Int} {R C g a : Nat} (M : MP f R C) (h7 : f 2 = 7) (hg : g < 3) (h71 : 71 ≤ a) (ht : fx_oc (a + 3) 7 = true) : ∀ (r k n : Nat) (s : gx_S), k + r = R * C → r < n → MR s 1 f R C → s.1 a 9 = g → ∃ u : gx_S, gm_23_35 n a ((R * C : Nat) : Int) k s = some u ∧ AC (a + 3) s u (fun x y => sg (fun i => pz (fun k => decide (co f C 0 k < 8)) (co f C 0) (co f C 1) (wt f C g) x y (k + i)) r) (fun x y => sg (fun i => pz (fun k => decide (co f C 0 k < 8)) (co f C 0) (co f C 1) (fun _ => 1) x y (k + i)) r) := by
  have hRC := RC_96 M.1.2.2.1 M.1.2.2.2
  intro r
  induction r with
  | zero =>
    intro k n s hk hn m e9
    obtain ⟨n, rfl⟩ : ∃ n', n = n' + 1 := ⟨n - 1, by omega⟩
    refine ⟨s, ?_, AC_0 _ _ (fun x y i => pz (fun k => decide (co f C 0 k < 8)) (co f C 0) (co f C 1) (wt f C g) x y (k + i)) (fun x y i => pz (fun k => decide (co f C 0 k < 8)) (co f C 0) (co f C 1) (fun _ => 1) x y (k + i))⟩
    rw [gm_23_35, if_pos (by omega), if_pos (by omega), if_pos (by omega)]
  | succ r ih =>
    intro k n s hk hn m e9
    obtain ⟨n, rfl⟩ : ∃ n', n = n' + 1 := ⟨n - 1, by omega⟩
    have hkl : k < R * C := by omega
    have ce : ((k : Int) + 1) = ((k + 1 : Nat) : Int) := rfl
    obtain ⟨⟨_, c0⟩, ⟨_, c1⟩, ⟨_, c2⟩⟩ := co_s M h7 hkl
    obtain ⟨g0, g1, g2⟩ := sp_60g m M h7 hkl
    have g3 := sp_61g m M h7 hg hkl
    rw [gm_23_35, if_pos (by omega), if_pos (by omega), if_neg (by omega), g0, Option.bind_some, if_pos (by omega)]
    by_cases q : co f C 0 k < 8
    · rw [if_neg (by omega)]
      show ∃ u : gx_S, ((gm_60 1 1 k s).bind _) = some u ∧ _
      rw [g1, Option.bind_some]
      show ∃ u : gx_S, ((gm_61 1 (s.1 a 9) k s).bind _) = some u ∧ _
      rw [e9, g3, Option.bind_some]
      show ∃ u : gx_S, ((gm_69 (a + 3) (co f C 0 k : Int) (co f C 1 k : Int) (wt f C g k) 1 s).bind _) = some u ∧ _
      rw [sp_69 s ht q (by omega), Option.bind_some]
      unfold gm_23_86
      rw [ce]
      obtain ⟨u, u1, u2⟩ := ih (k + 1) n (adt s (a + 3) (co f C 0 k) (co f C 1 k) (wt f C g k) 1) (by omega) (by omega) (MR_adt (by omega) m) ((adt_o _ _ _ _ _ _ _ _ (by omega) (by omega)).trans e9)
      exact ⟨u, u1, AC_add (K := fun k => decide (co f C 0 k < 8)) (X := co f C 0) (Y := co f C 1) (w := wt f C g) (decide_eq_true q) q (by omega) u2⟩
    · rw [if_pos (by omega)]
      unfold gm_23_86
      rw [ce]
      obtain ⟨u, u1, u2⟩ := ih (k + 1) n s (by omega) (by omega) m e9
      exact ⟨u, u1, AC_skip (K := fun k => decide (co f C 0 k < 8)) (decide_eq_false q) u2⟩
end
section
/-! THE CLASS: the moves -/
theorem SO_pz {f : Nat → Int} {R C g x y : Nat} (M : MP f R C) (h7 : f 2 = 7) (hx : x < 8) (b : Bool) : SO f R C g x y b = sg (pz (fun k => decide (co f C 0 k < 8)) (co f C 0) (co f C 1) (fun k => if b = true then 1 else wt f C g k) x y) (R * C) := by
  refine sg_eq fun k hk => ?_
  obtain ⟨⟨c0, _⟩, ⟨c1, _⟩, _⟩ := co_s M h7 hk
  unfold pz
  rw [c0, c1]
  by_cases q : co f C 0 k = x ∧ co f C 1 k = y
  · rw [if_pos (show (((x : Nat) : Int) = -1 ∨ (co f C 0 k : Int) = x) ∧ (((y : Nat) : Int) = -1 ∨ (co f C 1 k : Int) = y) by omega), if_pos (show decide (co f C 0 k < 8) = true ∧ co f C 0 k = x ∧ co f C 1 k = y from ⟨decide_eq_true (by omega), q⟩)]
    rfl
  · rw [if_neg (show ¬ ((((x : Nat) : Int) = -1 ∨ (co f C 0 k : Int) = x) ∧ (((y : Nat) : Int) = -1 ∨ (co f C 1 k : Int) = y)) by omega), if_neg (fun h => q h.2)]
theorem SO_row {f : Nat → Int} {R C g : Nat} (M : MP f R C) (h7 : f 2 = 7) (o : Int) (b : Bool) : sg (fun y => SO f R C g o ((y : Nat) : Int) b) 9 = SO f R C g o (-1) b := by
  unfold SO
  rw [sg_swap (fun y k => if (o = -1 ∨ f (52 + 96 * 0 + 12 * (k / C) + k % C) = o) ∧ (((y : Nat) : Int) = -1 ∨ f (52 + 96 * 1 + 12 * (k / C) + k % C) = ((y : Nat) : Int)) then (if b = true then 1 else f (32 + 4 * g + (f (52 + 96 * 2 + 12 * (k / C) + k % C)).toNat)) else 0) (R * C) 9]
  refine sg_eq fun k hk => ?_
  obtain ⟨_, ⟨c1, l1⟩, _⟩ := co_s M h7 hk
  rw [sg_single (i := co f C 1 k) (by omega) fun y hy hn => if_neg fun h => by
    have := h.2
    omega]
  by_cases q : o = -1 ∨ f (52 + 96 * 0 + 12 * (k / C) + k % C) = o
  · rw [if_pos (show (o = -1 ∨ f (52 + 96 * 0 + 12 * (k / C) + k % C) = o) ∧ (((co f C 1 k : Nat) : Int) = -1 ∨ f (52 + 96 * 1 + 12 * (k / C) + k % C) = ((co f C 1 k : Nat) : Int)) from ⟨q, .inr c1⟩), if_pos (show (o = -1 ∨ f (52 + 96 * 0 + 12 * (k / C) + k % C) = o) ∧ ((-1 : Int) = -1 ∨ f (52 + 96 * 1 + 12 * (k / C) + k % C) = -1) from ⟨q, .inl rfl⟩)]
  · rw [if_neg (show ¬ ((o = -1 ∨ f (52 + 96 * 0 + 12 * (k / C) + k % C) = o) ∧ (((co f C 1 k : Nat) : Int) = -1 ∨ f (52 + 96 * 1 + 12 * (k / C) + k % C) = ((co f C 1 k : Nat) : Int))) from fun h => q h.1), if_neg (show ¬ ((o = -1 ∨ f (52 + 96 * 0 + 12 * (k / C) + k % C) = o) ∧ ((-1 : Int) = -1 ∨ f (52 + 96 * 1 + 12 * (k / C) + k % C) = -1)) from fun h => q h.1)]
def flv (P : Nat → Int) (A : Nat → Nat → Int) (x y : Nat) : Int := if sg (fun y => A x y) 9 ≤ 0 then 0 else P x * A x y / sg (fun y => A x y) 9
def rsv (P : Nat → Int) (A : Nat → Nat → Int) (x y : Nat) : Int := if sg (fun y => A x y) 9 ≤ 0 then 0 else P x * A x y % sg (fun y => A x y) 9
/-- a table of the class is as people P and amounts A want it -/
def TR (s : gx_S) (t : Nat) (md : Int) (P : Nat → Int) (A : Nat → Nat → Int) : Prop := ∀ x, x < 8 → s.1 (t + 1) x = P x ∧ s.1 (t + 2) x = sg (fun y => A x y) 9 ∧ ∀ y, y < 9 → s.1 (t + 4) (9 * x + y) = A x y ∧ s.1 (t + 6) (9 * x + y) = flv P A x y ∧ s.1 (t + 7) (9 * x + y) = rsv P A x y ∧ s.1 (t + 8) (9 * x + y) = TB md P A x y
theorem TR_class {md : Int} {P : Nat → Int} {A : Nat → Nat → Int} {c : gx_S} {t : Nat} (ht : fx_oc t 7 = true) (hmd : md = 0 ∨ md = 1) (h : PA P A) (h8 : md = 1 → sg (fun x => sg (fun y => A x y) 9) 8 ≤ 864) (hp : ∀ x, x < 8 → c.1 (t + 1) x = P x) (hb : ∀ i, i < 72 → (0 ≤ c.1 (t + 4) i ∧ c.1 (t + 4) i ≤ 1000000) ∧ (0 ≤ c.1 (t + 5) i ∧ c.1 (t + 5) i ≤ 1000000)) (ha : ∀ x y, x < 8 → y < 9 → am c t x y = A x y) : ∃ u : gx_S, gm_41 t md c = some u ∧ TR u t md P A ∧ ro7 t c u ∧ ∀ x, x < 8 → u.1 (t + 3) x = pl c t x := by
  have t14 := oc7_14 ht
  obtain ⟨u, u1, u2, u3, u4, u5, u6, u7⟩ := TB_class ht hmd h h8 hp hb ha
  refine ⟨u, u1, fun x hx => ?_, u3, u7⟩
  obtain ⟨a1, a2⟩ := u4 x hx
  refine ⟨by rw [u3.2 _ _ (by omega) (by omega) (by omega) (by omega)]; exact hp x hx, a1, fun y hy => ?_⟩
  obtain ⟨b1, b2, b3⟩ := a2 y hy
  have e : aw c t x = sg (fun y => A x y) 9 := am_of fun y hy => ha x y hx hy
  refine ⟨b1, ?_, ?_, u2 x y hx hy⟩
  · rw [b2]
    unfold af flv
    rw [e, hp x hx, ha x y hx hy]
  · rw [b3]
    unfold ar rsv
    rw [e, hp x hx, ha x y hx hy]
theorem TR_o {s u : gx_S} {t : Nat} {md : Int} {P : Nat → Int} {A : Nat → Nat → Int} (o : ∀ k j, t < k → k < t + 9 → u.1 k j = s.1 k j) (h : TR s t md P A) : TR u t md P A := fun x hx => by
  obtain ⟨a1, a2, a3⟩ := h x hx
  refine ⟨by rw [o _ _ (by omega) (by omega)]; exact a1, by rw [o _ _ (by omega) (by omega)]; exact a2, fun y hy => ?_⟩
  obtain ⟨b1, b2, b3, b4⟩ := a3 y hy
  exact ⟨by rw [o _ _ (by omega) (by omega)]; exact b1, by rw [o _ _ (by omega) (by omega)]; exact b2, by rw [o _ _ (by omega) (by omega)]; exact b3, by rw [o _ _ (by omega) (by omega)]; exact b4⟩
/-- the moves: with rows told that have no weight -/
def TM (s : gx_S) (t : Nat) (f : Nat → Int) (R C g : Nat) : Prop := TR s t (f 3) (LV f R C g) (PMV f R C g) ∧ ∀ x, x < 8 → s.1 (t + 3) x = if SO f R C g x (-1) false = 0 then 1 else 0
theorem TM_o {s u : gx_S} {t : Nat} {f : Nat → Int} {R C g : Nat} (o : ∀ k j, t < k → k < t + 9 → u.1 k j = s.1 k j) (h : TM s t f R C g) : TM u t f R C g := ⟨TR_o o h.1, fun x hx => by rw [o _ _ (by omega) (by omega)]; exact h.2 x hx⟩
/-- what has been added up is what the reference sums -/
theorem am_SO {s : gx_S} {f : Nat → Int} {R C g t : Nat} {T : Nat → Nat → Int} {x y : Nat} (F : Nat → Nat → Bool → Int) (e4 : ∀ y, y < 9 → s.1 (t + 4) (9 * x + y) = F x y false) (e5 : ∀ y, y < 9 → s.1 (t + 5) (9 * x + y) = F x y true) (hy : y < 9) (hT : T x y = F x y (decide (sg (fun y => F x y false) 9 = 0))) : am s t x y = T x y := by
  unfold am
  have es : sg (fun c => s.1 (t + 4) (9 * x + c)) 9 = sg (fun y => F x y false) 9 := sg_eq fun y hy => e4 y hy
  rw [es, hT, e4 y hy, e5 y hy]
  by_cases z : sg (fun y => F x y false) 9 = 0
  · rw [if_pos z, decide_eq_true z]
  · rw [if_neg z, decide_eq_false z]
theorem sp_23 {s : gx_S} {f : Nat → Int} {R C g a : Nat} (m : MR s 1 f R C) (M : MP f R C) (h7 : f 2 = 7) (hg : g < 3) (h71 : 71 ≤ a) (ho : fx_oc a 2 = true) (ht : fx_oc (a + 3) 7 = true) (e9 : s.1 a 9 = g) (hl : ∀ z, z < 8 → s.1 (a + 1) z = LV f R C g z) : ∃ u w : gx_S, gm_23 a s = some u ∧ u.1 1 7 = f 3 ∧ gm_41 (a + 3) (f 3) u = some w ∧ TM w (a + 3) f R C g ∧ w.2 = s.2 ∧ ∀ k j, ¬ (7 ≤ k ∧ k ≤ 13) → ¬ (k = 6 ∧ j = 7) → ¬ (a + 4 ≤ k ∧ k ≤ a + 11) → w.1 k j = s.1 k j := by
  obtain ⟨b, b1, b2, b3, b4, b5⟩ := sp_68 s ht
  obtain ⟨c, hc⟩ : ∃ c, c = gcp b (a + 1) 0 (a + 3 + 1) 0 8 := ⟨_, rfl⟩
  have ck : ∀ k i, k ≠ a + 3 + 1 → c.1 k i = b.1 k i := fun k i h => by
    rw [hc]
    exact if_neg fun x => h x.1
  have c1 : ∀ x, x < 8 → c.1 (a + 3 + 1) x = LV f R C g x := fun x hx => by
    rw [hc]
    show (if a + 3 + 1 = a + 3 + 1 ∧ 0 ≤ x ∧ x < 0 + 8 then b.1 (a + 1) (0 + (x - 0)) else b.1 (a + 3 + 1) x) = _
    rw [if_pos ⟨rfl, by omega, by omega⟩, show 0 + (x - 0) = x by omega, b5 _ _ (by omega) (by omega) (by omega)]
    exact hl x hx
  have mc : MR c 1 f R C := MR_o (fun k j h1 h2 => (ck k j (by omega)).trans (b5 k j (by omega) (by omega) (by omega))) m
  have c9 : c.1 a 9 = g := by rw [ck _ _ (by omega), b5 _ _ (by omega) (by omega) (by omega)]; exact e9
  have hRC := RC_96 M.1.2.2.1 M.1.2.2.2
  obtain ⟨u, u1, u2, u3, u4⟩ := sl_23 M h7 hg h71 ht (R * C) 0 100000 c (by omega) (by omega) mc c9
  have u1 : gm_23_35 100000 a ((R * C : Nat) : Int) 0 c = some u := u1
  have e45 : ∀ x y, x < 8 → y < 9 → u.1 (a + 3 + 4) (9 * x + y) = SO f R C g x y false ∧ u.1 (a + 3 + 5) (9 * x + y) = SO f R C g x y true := fun x y hx hy => by
    obtain ⟨q1, q2⟩ := u4 x y hx hy
    have z := b4 (9 * x + y) (by omega)
    rw [ck _ _ (by omega), z.1] at q1
    rw [ck _ _ (by omega), z.2] at q2
    rw [q1, q2, SO_pz M h7 hx false, SO_pz M h7 hx true]
    constructor
    · rw [Int.zero_add]
      exact sg_eq fun k _ => by rw [Nat.zero_add]; rfl
    · rw [Int.zero_add]
      exact sg_eq fun k _ => by rw [Nat.zero_add]; rfl
  obtain ⟨pa, p8⟩ := PA_mv M h7 hg
  have hb : ∀ i, i < 72 → (0 ≤ u.1 (a + 3 + 4) i ∧ u.1 (a + 3 + 4) i ≤ 1000000) ∧ (0 ≤ u.1 (a + 3 + 5) i ∧ u.1 (a + 3 + 5) i ≤ 1000000) := fun i hi => by
    have e : 9 * (i / 9) + i % 9 = i := by omega
    have q := e45 (i / 9) (i % 9) (by omega) (by omega)
    rw [e] at q
    rw [q.1, q.2]
    have r1 := SO_r M h7 hg ((i / 9 : Nat) : Int) ((i % 9 : Nat) : Int) false
    have r2 := SO_r M h7 hg ((i / 9 : Nat) : Int) ((i % 9 : Nat) : Int) true
    omega
  obtain ⟨w, w1, w2, w3, w4⟩ := TR_class (t := a + 3) ht M.2.2.1 pa (fun _ => p8) (fun x hx => (u3 _ _ (by omega) (by omega)).trans (c1 x hx)) hb fun x y hx hy => am_SO (T := PMV f R C g) (R := R) (C := C) (f := f) (g := g) (fun x y b => SO f R C g x y b) (fun y hy => (e45 x y hx hy).1) (fun y hy => (e45 x y hx hy).2) hy (by
    unfold PMV
    rw [SO_row M h7 (x : Int) false])
  refine ⟨u, w, ?_, ?_, w1, ⟨w2, fun x hx => ?_⟩, ?_, fun k j h1 h2 h3 => ?_⟩
  · unfold gm_23
    rw [if_pos ho, b1, Option.bind_some, ← hc, sp_58 (MR_cz mc M), Option.bind_some, u1]
  · rw [u3 1 7 (by omega) (by omega)]
    exact mc.2.2.2.1
  · rw [w4 x hx]
    unfold pl
    rw [sg_eq (f := fun y => u.1 (a + 3 + 4) (9 * x + y)) (g := fun y => SO f R C g x ((y : Nat) : Int) false) fun y hy => (e45 x y hx hy).1, SO_row M h7 (x : Int) false]
  · rw [w3.1, u2, hc]
    exact b2
  · rw [w3.2 k j h1 h2 (by omega) (by omega), u3 k j (by omega) (by omega), ck k j (by omega), b5 k j (by omega) (by omega) (by omega)]
end
section
/-! THE CLASS: what is made already -/
def bt (D w : Nat) : Prop := D / w % 2 = 1
theorem bits_c : ∀ D : Nat, D < 64 → ∀ w : Nat, w ∈ ([1, 2, 4, 8, 16, 32] : List Nat) → ((Int32.ofInt (D : Int) &&& Int32.ofInt (w : Int)).toInt = (if D / w % 2 = 1 then (w : Int) else 0)) ∧ ((Int32.ofInt (D : Int) ||| Int32.ofInt (w : Int)).toInt = (if D / w % 2 = 1 then (D : Int) else ((D + w : Nat) : Int))) := by decide +kernel
theorem bits_n : ∀ D : Nat, D < 64 → ∀ w : Nat, w ∈ ([1, 2, 4, 8, 16, 32] : List Nat) → ¬ D / w % 2 = 1 → D + w < 64 ∧ (D + w) / w % 2 = 1 ∧ ∀ v : Nat, v ∈ ([1, 2, 4, 8, 16, 32] : List Nat) → v ≠ w → ((D + w) / v % 2 = D / v % 2) := by decide +kernel
/-- lacks: told, and set -/
theorem sp_21 {s : gx_S} {a D w : Nat} (ho : fx_oc a 2 = true) (hD : D < 64) (hw : w ∈ [1, 2, 4, 8, 16, 32]) (e : s.1 a 8 = D) : ∃ (D' : Nat) (u : gx_S), gm_21 a w s = some (decide (¬ D / w % 2 = 1), u) ∧ u.2 = s.2 ∧ (∀ k j, ¬ (k = a ∧ j = 8) → u.1 k j = s.1 k j) ∧ u.1 a 8 = D' ∧ D' < 64 ∧ D' / w % 2 = 1 ∧ ∀ v : Nat, v ∈ ([1, 2, 4, 8, 16, 32] : List Nat) → v ≠ w → D' / v % 2 = D / v % 2 := by
  obtain ⟨b1, b2⟩ := bits_c D hD w hw
  have wq : w = 1 ∨ w = 2 ∨ w = 4 ∨ w = 8 ∨ w = 16 ∨ w = 32 := by simpa using hw
  have w32 : w ≤ 32 := by omega
  by_cases q : D / w % 2 = 1
  · rw [if_pos q] at b1 b2
    have w0 : w ≠ 0 := by omega
    refine ⟨D, gw1 s a 8 (D : Int), ?_, rfl, fun k j h => by rw [gw1_1, if_neg h], by rw [gw1_1, if_pos ⟨rfl, rfl⟩], hD, q, fun _ _ _ => rfl⟩
    unfold gm_21
    rw [if_pos ho, e, b1, if_pos (by omega), if_neg (by omega)]
    unfold gm_21_14
    rw [if_pos (by decide), if_pos (by decide), e, b2, decide_eq_false (fun h => h q)]
  · rw [if_neg q] at b1 b2
    obtain ⟨n1, n2, n3⟩ := bits_n D hD w hw q
    refine ⟨D + w, gw1 s a 8 ((D + w : Nat) : Int), ?_, rfl, fun k j h => by rw [gw1_1, if_neg h], by rw [gw1_1, if_pos ⟨rfl, rfl⟩], n1, n2, n3⟩
    unfold gm_21
    rw [if_pos ho, e, b1, if_pos (by omega), if_pos rfl]
    unfold gm_21_14
    rw [if_pos (by decide), if_neg (by decide), e, b2, decide_eq_true q]
/-- what flows back: people and amounts -/
def Pbk (f : Nat → Int) (R C g x : Nat) : Int := sg (fun z => GV f R C g z x) 8
def Abk (f : Nat → Int) (R C g x y : Nat) : Int := SO f R C g y x (decide (SO f R C g (-1) x false = 0))
def dsc (f : Nat → Int) (y : Nat) : Int := if y = 8 then 4 else f (44 + y)
def Aco (f : Nat → Int) (R C g x d : Nat) : Int := sg (fun y => if dsc f y = (d : Int) then PMV f R C g x y else 0) 9
def GC_ (f : Nat → Int) (R C g : Nat) : Nat → Nat → Int := TB (f 3) (LV f R C g) (Aco f R C g)
def Pwy (f : Nat → Int) (R C g d : Nat) : Int := if d < 4 then sg (fun x => GC_ f R C g x d) 8 else 0
def Awy (f : Nat → Int) (R C g d y : Nat) : Int := if y < 8 ∧ dsc f y = (d : Int) then SO f R C g (-1) y (decide (sg (fun y => if dsc f y = (d : Int) then SO f R C g (-1) ((y : Nat) : Int) false else 0) 8 = 0)) else 0
/-- the group's tables are right, as far as they are made -/
def GGD (s : gx_S) (f : Nat → Int) (R C g a D : Nat) : Prop := D < 64 ∧ s.1 a 8 = D ∧ s.1 a 9 = g ∧ (D / 1 % 2 = 1 → (∀ z, z < 8 → s.1 (a + 1) z = LV f R C g z) ∧ s.1 a 6 = UN f R C g ∧ s.1 a 7 = ASf f R C g) ∧ (D / 2 % 2 = 1 → D / 1 % 2 = 1 ∧ TM s (a + 3) f R C g) ∧ (D / 4 % 2 = 1 → TR s (a + 12) (f 3) (Pbk f R C g) (Abk f R C g)) ∧ (D / 8 % 2 = 1 → D / 1 % 2 = 1 ∧ TR s (a + 21) (f 3) (LV f R C g) (Aco f R C g)) ∧ (D / 16 % 2 = 1 → TR s (a + 30) (f 3) (Pwy f R C g) (Awy f R C g)) ∧ (D / 32 % 2 = 1 → D / 2 % 2 = 1 ∧ ∀ k, k < R * C → 0 ≤ s.1 (a + 2) k ∧ s.1 (a + 2) k < R * C)
/-- a group of the class -/
def ga (a : Nat) : Prop := 71 ≤ a ∧ a + 48 ≤ 215 ∧ fx_oc a 2 = true ∧ fx_oc (a + 3) 7 = true ∧ fx_oc (a + 12) 7 = true ∧ fx_oc (a + 21) 7 = true ∧ fx_oc (a + 30) 7 = true ∧ fx_oc (a + 39) 7 = true
theorem ga_g : ∀ g, g < 3 → fx_oc (71 + 48 * g) 2 = true ∧ fx_oc (71 + 48 * g + 3) 7 = true ∧ fx_oc (71 + 48 * g + 12) 7 = true ∧ fx_oc (71 + 48 * g + 21) 7 = true ∧ fx_oc (71 + 48 * g + 30) 7 = true ∧ fx_oc (71 + 48 * g + 39) 7 = true := by decide +kernel
theorem ga_of {g : Nat} (hg : g < 3) : ga (71 + 48 * g) := ⟨by omega, by omega, ga_g g hg⟩
/-- the group's own cells and the rounder's alone change -/
def KG (a : Nat) (s u : gx_S) : Prop := u.2 = s.2 ∧ ∀ k j, ¬ (6 ≤ k ∧ k ≤ 13) → ¬ (a ≤ k ∧ k < a + 48) → u.1 k j = s.1 k j
theorem KG_tr {a : Nat} {s t u : gx_S} (x : KG a s t) (y : KG a t u) : KG a s u := ⟨y.1.trans x.1, fun k j h1 h2 => (y.2 k j h1 h2).trans (x.2 k j h1 h2)⟩
theorem KG_rf (a : Nat) (s : gx_S) : KG a s s := ⟨rfl, fun _ _ _ _ => rfl⟩
theorem KG_MR {a : Nat} {s u : gx_S} {f : Nat → Int} {R C : Nat} (ha : ga a) (x : KG a s u) (m : MR s 1 f R C) : MR u 1 f R C := MR_o (fun k j h1 h2 => x.2 k j (by omega) (by have := ha.1; omega)) m
/-- makeLives -/
theorem sp_20 {s : gx_S} {f : Nat → Int} {R C g a D : Nat} (m : MR s 1 f R C) (M : MP f R C) (hg : g < 3) (ha : ga a) (G : GGD s f R C g a D) : ∃ (D' : Nat) (u : gx_S), gm_20 a s = some u ∧ KG a s u ∧ GGD u f R C g a D' ∧ D' / 1 % 2 = 1 := by
  obtain ⟨a71, a215, ho, t3, t12, t21, t30, t39⟩ := ha
  obtain ⟨hD, e8, e9, g1, g2, g4, g8, g16, g32⟩ := G
  obtain ⟨D', t, q1, q2, q3, q4, q5, q6, q7⟩ := sp_21 (w := 1) ho hD (by decide) e8
  have q1 : gm_21 a 1 s = some (decide (¬ D / 1 % 2 = 1), t) := q1
  have n2 := q7 2 (by decide) (by decide)
  have n4 := q7 4 (by decide) (by decide)
  have n8 := q7 8 (by decide) (by decide)
  have n16 := q7 16 (by decide) (by decide)
  have n32 := q7 32 (by decide) (by decide)
  have to : ∀ k j, ¬ (k = a ∧ j = 8) → t.1 k j = s.1 k j := q3
  unfold gm_20
  rw [if_pos ho, q1, Option.bind_some]
  by_cases z : D / 1 % 2 = 1
  · rw [decide_eq_false (fun h => h z), if_pos (show gb (false, t).1 = 0 from (by decide : gb false = 0))]
    obtain ⟨l1, l2, l3⟩ := g1 z
    refine ⟨D', t, rfl, ⟨q2, fun k j h1 h2 => to k j (by omega)⟩, ⟨q5, q4, (to a 9 (by omega)).trans e9, fun _ => ⟨fun z hz => (to _ _ (by omega)).trans (l1 z hz), (to _ _ (by omega)).trans l2, (to _ _ (by omega)).trans l3⟩, fun h => ?_, fun h => ?_, fun h => ?_, fun h => ?_, fun h => ?_⟩, q6⟩
    · exact ⟨q6, TM_o (fun k j h1 h2 => to k j (by omega)) (g2 (n2 ▸ h)).2⟩
    · exact TR_o (fun k j h1 h2 => to k j (by omega)) (g4 (n4 ▸ h))
    · exact ⟨q6, TR_o (fun k j h1 h2 => to k j (by omega)) (g8 (n8 ▸ h)).2⟩
    · exact TR_o (fun k j h1 h2 => to k j (by omega)) (g16 (n16 ▸ h))
    · obtain ⟨x1, x2⟩ := g32 (n32 ▸ h)
      exact ⟨n2.trans x1, fun k hk => by rw [to _ _ (by omega)]; exact x2 k hk⟩
  · rw [decide_eq_true z, if_neg (show ¬ gb (true, t).1 = 0 from (by decide : ¬ gb true = 0))]
    have mt : MR t 1 f R C := MR_o (fun k j h1 h2 => to k j (by omega)) m
    obtain ⟨u, u1, u2, u3, u4, u5, u6⟩ := sp_22 mt M hg a71 ho t39 ((to a 9 (by omega)).trans e9)
    have u8 : u.1 a 8 = D' := (u6 a 8 (by omega) (by omega) (by omega) (by omega) (by omega)).trans q4
    have u9 : u.1 a 9 = g := (u6 a 9 (by omega) (by omega) (by omega) (by omega) (by omega)).trans ((to a 9 (by omega)).trans e9)
    have uo : ∀ k j, a + 2 ≤ k → k ≤ a + 39 → u.1 k j = s.1 k j := fun k j h1 h2 => (u6 k j (by omega) (by omega) (by omega) (by omega) (by omega)).trans (to k j (by omega))
    show ∃ (D' : Nat) (w : gx_S), ((gm_22 a t).bind fun q10 => some q10) = some w ∧ _
    rw [u1, Option.bind_some]
    refine ⟨D', u, rfl, ⟨u2.trans q2, fun k j h1 h2 => (u6 k j (by omega) (by omega) (by omega) (by omega) (by omega)).trans (to k j (by omega))⟩, ⟨q5, u8, u9, fun _ => ⟨u3, u4, u5⟩, fun h => ?_, fun h => ?_, fun h => ?_, fun h => ?_, fun h => ?_⟩, q6⟩
    · exact absurd (g2 (n2 ▸ h)).1 z
    · exact TR_o (fun k j h1 h2 => uo k j (by omega) (by omega)) (g4 (n4 ▸ h))
    · exact absurd (g8 (n8 ▸ h)).1 z
    · exact TR_o (fun k j h1 h2 => uo k j (by omega) (by omega)) (g16 (n16 ▸ h))
    · exact absurd (g2 (g32 (n32 ▸ h)).1).1 z
end
section
/-! THE CLASS: the moves made ready -/
theorem rd_2 {s : gx_S} {f : Nat → Int} {R C g a D : Nat} {what : Int} (m : MR s 1 f R C) (M : MP f R C) (h7 : f 2 = 7) (hg : g < 3) (ha : ga a) (G : GGD s f R C g a D) (l1 : D / 1 % 2 = 1) : ∃ (D' : Nat) (u : gx_S), gm_19_20 a what s = gm_19_59 a what u ∧ KG a s u ∧ GGD u f R C g a D' ∧ D' / 1 % 2 = 1 ∧ D' / 2 % 2 = 1 := by
  obtain ⟨a71, a215, ho, t3, t12, t21, t30, t39⟩ := id ha
  obtain ⟨hD, e8, e9, g1, g2, g4, g8, g16, g32⟩ := G
  obtain ⟨D', t, q1, q2, q3, q4, q5, q6, q7⟩ := sp_21 (w := 2) ho hD (by decide) e8
  have q1 : gm_21 a 2 s = some (decide (¬ D / 2 % 2 = 1), t) := q1
  have n1 := q7 1 (by decide) (by decide)
  have n4 := q7 4 (by decide) (by decide)
  have n8 := q7 8 (by decide) (by decide)
  have n16 := q7 16 (by decide) (by decide)
  have n32 := q7 32 (by decide) (by decide)
  have to : ∀ k j, ¬ (k = a ∧ j = 8) → t.1 k j = s.1 k j := q3
  obtain ⟨li1, li2, li3⟩ := g1 l1
  unfold gm_19_20
  rw [q1, Option.bind_some]
  by_cases z : D / 2 % 2 = 1
  · rw [decide_eq_false (fun h => h z), if_pos (show gb (false, t).1 = 0 from (by decide : gb false = 0))]
    refine ⟨D', t, rfl, ⟨q2, fun k j h1 h2 => to k j (by omega)⟩, ⟨q5, q4, (to a 9 (by omega)).trans e9, fun _ => ⟨fun z hz => (to _ _ (by omega)).trans (li1 z hz), (to _ _ (by omega)).trans li2, (to _ _ (by omega)).trans li3⟩, fun h => ?_, fun h => ?_, fun h => ?_, fun h => ?_, fun h => ?_⟩, n1.trans l1, q6⟩
    · exact ⟨n1.trans l1, TM_o (fun k j h1 h2 => to k j (by omega)) (g2 z).2⟩
    · exact TR_o (fun k j h1 h2 => to k j (by omega)) (g4 (n4 ▸ h))
    · exact ⟨n1.trans l1, TR_o (fun k j h1 h2 => to k j (by omega)) (g8 (n8 ▸ h)).2⟩
    · exact TR_o (fun k j h1 h2 => to k j (by omega)) (g16 (n16 ▸ h))
    · obtain ⟨x1, x2⟩ := g32 (n32 ▸ h)
      exact ⟨q6, fun k hk => by rw [to _ _ (by omega)]; exact x2 k hk⟩
  · rw [decide_eq_true z, if_neg (show ¬ gb (true, t).1 = 0 from (by decide : ¬ gb true = 0))]
    have mt : MR t 1 f R C := MR_o (fun k j h1 h2 => to k j (by omega)) m
    obtain ⟨u, w, u1, u2, u3, u4, u5, u6⟩ := sp_23 mt M h7 hg a71 ho t3 ((to a 9 (by omega)).trans e9) fun z hz => (to _ _ (by omega)).trans (li1 z hz)
    have wo : ∀ k j, a ≤ k → ¬ (k = a ∧ j = 8) → ¬ (a + 4 ≤ k ∧ k ≤ a + 11) → w.1 k j = s.1 k j := fun k j h1 h2 h3 => (u6 k j (by omega) (by omega) h3).trans (to k j h2)
    have w8 : w.1 a 8 = D' := (u6 a 8 (by omega) (by omega) (by omega)).trans q4
    have m3 := M.2.2.1
    have st : ((gm_23 a (true, t).2).bind fun q5 => if (-2147483648 ≤ (q5.1 1 7) ∧ (q5.1 1 7) ≤ 2147483647) then (if ¬ (q5.1 1 7) = 1 then gm_19_56 a what (a + 3) 0 q5 else gm_19_56 a what (a + 3) 1 q5) else none) = gm_19_59 a what w := by
      show ((gm_23 a t).bind _) = _
      rw [u1, Option.bind_some, u2, if_pos (by omega)]
      unfold gm_19_56
      rcases m3 with e | e
      · rw [e] at u3
        rw [if_pos (by rw [e]; decide), u3, Option.bind_some]
      · rw [e] at u3
        rw [if_neg (by rw [e]; decide), u3, Option.bind_some]
    rw [st]
    refine ⟨D', w, rfl, ⟨u5.trans q2, fun k j h1 h2 => (u6 k j (by omega) (by omega) (by omega)).trans (to k j (by omega))⟩, ⟨q5, w8, (wo a 9 (by omega) (by omega) (by omega)).trans e9, fun _ => ⟨fun z hz => (wo _ _ (by omega) (by omega) (by omega)).trans (li1 z hz), (wo _ _ (by omega) (by omega) (by omega)).trans li2, (wo _ _ (by omega) (by omega) (by omega)).trans li3⟩, fun _ => ⟨n1.trans l1, u4⟩, fun h => ?_, fun h => ?_, fun h => ?_, fun h => ?_⟩, n1.trans l1, q6⟩
    · exact TR_o (fun k j h1 h2 => wo k j (by omega) (by omega) (by omega)) (g4 (n4 ▸ h))
    · exact ⟨n1.trans l1, TR_o (fun k j h1 h2 => wo k j (by omega) (by omega) (by omega)) (g8 (n8 ▸ h)).2⟩
    · exact TR_o (fun k j h1 h2 => wo k j (by omega) (by omega) (by omega)) (g16 (n16 ▸ h))
    · exact absurd (g32 (n32 ▸ h)).1 z
end
section
/-! THE CLASS: the table back -/
theorem sp_76 {s : gx_S} {t y : Nat} (ht : fx_oc t 7 = true) (hy : y < 9) : gm_76 t y s = some (sg (fun x => s.1 (t + 8) (9 * x + y)) 8, s) := by
  have e : ∀ (n j : Nat), 8 < n + j → j ≤ 8 → gm_76_4 n t y (sg (fun x => s.1 (t + 8) (9 * x + y)) j) j s = some (sg (fun x => s.1 (t + 8) (9 * x + y)) 8, s) := by
    intro n
    induction n with
    | zero => intro j h; omega
    | succ n ih =>
      intro j h' hj
      rw [gm_76_4, if_pos (by omega)]
      by_cases q : j = 8
      · rw [if_pos (by omega), q]
      · have ce : ((j : Int) + 1) = ((j + 1 : Nat) : Int) := rfl
        have i1 : (((j : Int) * 9) + (y : Int)).toNat = 9 * j + y := by omega
        rw [if_neg (by omega), if_pos (by omega), i1, ce]
        exact ih (j + 1) (by omega) (by omega)
  unfold gm_76
  rw [if_pos ht]
  exact e 100000 0 (by omega) (by omega)
theorem SO_pz2 {f : Nat → Int} {R C g x y : Nat} (M : MP f R C) (h7 : f 2 = 7) (hx : x < 8) (b : Bool) : SO f R C g y x b = sg (pz (fun k => decide (co f C 1 k < 8)) (co f C 1) (co f C 0) (fun k => if b = true then 1 else wt f C g k) x y) (R * C) := by
  refine sg_eq fun k hk => ?_
  obtain ⟨⟨c0, _⟩, ⟨c1, _⟩, _⟩ := co_s M h7 hk
  unfold pz
  rw [c0, c1]
  by_cases q : co f C 1 k = x ∧ co f C 0 k = y
  · rw [if_pos (show (((y : Nat) : Int) = -1 ∨ (co f C 0 k : Int) = y) ∧ (((x : Nat) : Int) = -1 ∨ (co f C 1 k : Int) = x) by omega), if_pos (show decide (co f C 1 k < 8) = true ∧ co f C 1 k = x ∧ co f C 0 k = y from ⟨decide_eq_true (by omega), q⟩)]
    rfl
  · rw [if_neg (show ¬ ((((y : Nat) : Int) = -1 ∨ (co f C 0 k : Int) = y) ∧ (((x : Nat) : Int) = -1 ∨ (co f C 1 k : Int) = x)) by omega), if_neg (fun h => q h.2)]
theorem SO_col {f : Nat → Int} {R C g : Nat} (M : MP f R C) (h7 : f 2 = 7) (z : Int) (b : Bool) : sg (fun y => SO f R C g ((y : Nat) : Int) z b) 9 = SO f R C g (-1) z b := by
  unfold SO
  rw [sg_swap (fun y k => if (((y : Nat) : Int) = -1 ∨ f (52 + 96 * 0 + 12 * (k / C) + k % C) = ((y : Nat) : Int)) ∧ (z = -1 ∨ f (52 + 96 * 1 + 12 * (k / C) + k % C) = z) then (if b = true then 1 else f (32 + 4 * g + (f (52 + 96 * 2 + 12 * (k / C) + k % C)).toNat)) else 0) (R * C) 9]
  refine sg_eq fun k hk => ?_
  obtain ⟨⟨c0, l0⟩, _, _⟩ := co_s M h7 hk
  rw [sg_single (i := co f C 0 k) (by omega) fun y hy hn => if_neg fun h => by
    have := h.1
    omega]
  by_cases q : z = -1 ∨ f (52 + 96 * 1 + 12 * (k / C) + k % C) = z
  · rw [if_pos (show (((co f C 0 k : Nat) : Int) = -1 ∨ f (52 + 96 * 0 + 12 * (k / C) + k % C) = ((co f C 0 k : Nat) : Int)) ∧ (z = -1 ∨ f (52 + 96 * 1 + 12 * (k / C) + k % C) = z) from ⟨.inr c0, q⟩), if_pos (show ((-1 : Int) = -1 ∨ f (52 + 96 * 0 + 12 * (k / C) + k % C) = -1) ∧ (z = -1 ∨ f (52 + 96 * 1 + 12 * (k / C) + k % C) = z) from ⟨.inl rfl, q⟩)]
  · rw [if_neg (show ¬ ((((co f C 0 k : Nat) : Int) = -1 ∨ f (52 + 96 * 0 + 12 * (k / C) + k % C) = ((co f C 0 k : Nat) : Int)) ∧ (z = -1 ∨ f (52 + 96 * 1 + 12 * (k / C) + k % C) = z)) from fun h => q h.2), if_neg (show ¬ (((-1 : Int) = -1 ∨ f (52 + 96 * 0 + 12 * (k / C) + k % C) = -1) ∧ (z = -1 ∨ f (52 + 96 * 1 + 12 * (k / C) + k % C) = z)) from fun h => q h.2)]
theorem GV_r {f : Nat → Int} {R C g : Nat} (M : MP f R C) (h7 : f 2 = 7) (hg : g < 3) : (∀ x y, x < 8 → y < 9 → 0 ≤ GV f R C g x y ∧ GV f R C g x y ≤ LV f R C g x) ∧ sg (LV f R C g) 8 ≤ 89991 ∧ ∀ y, y < 9 → 0 ≤ sg (fun x => GV f R C g x y) 8 ∧ sg (fun x => GV f R C g x y) 8 ≤ 89991 := by
  obtain ⟨p1, p2⟩ := PA_mv M h7 hg
  obtain ⟨t1, t2⟩ := TB_0 (md := f 3) M.2.2.1 p1 (fun _ => p2)
  obtain ⟨l1, l2⟩ := LV_r M hg
  have m := (M.2.2.2.2.1 g hg).2
  have u0 := UN_r M hg
  have as0 : 0 ≤ ASf f R C g := by
    unfold ASf
    split <;> omega
  refine ⟨t1, by omega, fun y hy => ⟨sg_nn fun x hx => (t1 x y hx hy).1, ?_⟩⟩
  have := sg_le (f := fun x => GV f R C g x y) (g := LV f R C g) (n := 8) fun x hx => (t1 x y hx hy).2
  omega
theorem PA_bk {f : Nat → Int} {R C g : Nat} (M : MP f R C) (h7 : f 2 = 7) (hg : g < 3) : PA (Pbk f R C g) (Abk f R C g) ∧ sg (fun x => sg (fun y => Abk f R C g x y) 9) 8 ≤ 864 := by
  obtain ⟨v1, v2, v3⟩ := GV_r M h7 hg
  have B := SO_B M h7 hg (fun _ y => decide (SO f R C g (-1) ((y : Nat) : Int) false = 0)) 9 8
  rw [← sg_swap (fun y x => SO f R C g ((x : Nat) : Int) ((y : Nat) : Int) (decide (SO f R C g (-1) ((y : Nat) : Int) false = 0))) 9 8] at B
  have B : sg (fun x => sg (fun y => Abk f R C g x y) 9) 8 ≤ 864 := B
  refine ⟨⟨fun x hx => ?_, fun x y _ _ => ?_, by omega⟩, B⟩
  · have := v3 x (by omega)
    show 0 ≤ sg (fun z => GV f R C g z x) 8 ∧ sg (fun z => GV f R C g z x) 8 ≤ 100000000
    omega
  · have := SO_r M h7 hg y x (decide (SO f R C g (-1) x false = 0))
    unfold Abk
    omega
theorem sl_24 {f : Nat → Int} {R C g a : Nat} (M : MP f R C) (h7 : f 2 = 7) (hg : g < 3) (h71 : 71 ≤ a) (ht : fx_oc (a + 12) 7 = true) : ∀ (r k n : Nat) (s : gx_S), k + r = R * C → r < n → MR s 1 f R C → s.1 a 9 = g → ∃ u : gx_S, gm_24_17 n a ((R * C : Nat) : Int) k s = gm_24_76 100000 a 0 u ∧ AC (a + 12) s u (fun x y => sg (fun i => pz (fun k => decide (co f C 1 k < 8)) (co f C 1) (co f C 0) (wt f C g) x y (k + i)) r) (fun x y => sg (fun i => pz (fun k => decide (co f C 1 k < 8)) (co f C 1) (co f C 0) (fun _ => 1) x y (k + i)) r) := by
  have hRC := RC_96 M.1.2.2.1 M.1.2.2.2
  intro r
  induction r with
  | zero =>
    intro k n s hk hn m e9
    obtain ⟨n, rfl⟩ : ∃ n', n = n' + 1 := ⟨n - 1, by omega⟩
    refine ⟨s, ?_, AC_0 _ _ (fun x y i => pz (fun k => decide (co f C 1 k < 8)) (co f C 1) (co f C 0) (wt f C g) x y (k + i)) (fun x y i => pz (fun k => decide (co f C 1 k < 8)) (co f C 1) (co f C 0) (fun _ => 1) x y (k + i))⟩
    rw [gm_24_17, if_pos (by omega), if_pos (by omega), if_pos (by omega)]
  | succ r ih =>
    intro k n s hk hn m e9
    obtain ⟨n, rfl⟩ : ∃ n', n = n' + 1 := ⟨n - 1, by omega⟩
    have hkl : k < R * C := by omega
    have ce : ((k : Int) + 1) = ((k + 1 : Nat) : Int) := rfl
    obtain ⟨⟨_, c0⟩, ⟨_, c1⟩, ⟨_, c2⟩⟩ := co_s M h7 hkl
    obtain ⟨g0, g1, g2⟩ := sp_60g m M h7 hkl
    have g3 := sp_61g m M h7 hg hkl
    rw [gm_24_17, if_pos (by omega), if_pos (by omega), if_neg (by omega), g1, Option.bind_some, if_pos (by omega)]
    by_cases q : co f C 1 k < 8
    · rw [if_neg (by omega)]
      show ∃ u : gx_S, ((gm_60 1 0 k s).bind _) = gm_24_76 100000 a 0 u ∧ _
      rw [g0, Option.bind_some]
      show ∃ u : gx_S, ((gm_61 1 (s.1 a 9) k s).bind _) = gm_24_76 100000 a 0 u ∧ _
      rw [e9, g3, Option.bind_some]
      show ∃ u : gx_S, ((gm_69 (a + 12) (co f C 1 k : Int) (co f C 0 k : Int) (wt f C g k) 1 s).bind _) = gm_24_76 100000 a 0 u ∧ _
      rw [sp_69 s ht q (by omega), Option.bind_some]
      unfold gm_24_68
      rw [ce]
      obtain ⟨u, u1, u2⟩ := ih (k + 1) n (adt s (a + 12) (co f C 1 k) (co f C 0 k) (wt f C g k) 1) (by omega) (by omega) (MR_adt (by omega) m) ((adt_o _ _ _ _ _ _ _ _ (by omega) (by omega)).trans e9)
      exact ⟨u, u1, AC_add (K := fun k => decide (co f C 1 k < 8)) (X := co f C 1) (Y := co f C 0) (w := wt f C g) (decide_eq_true q) q (by omega) u2⟩
    · rw [if_pos (by omega)]
      unfold gm_24_68
      rw [ce]
      obtain ⟨u, u1, u2⟩ := ih (k + 1) n s (by omega) (by omega) m e9
      exact ⟨u, u1, AC_skip (K := fun k => decide (co f C 1 k < 8)) (decide_eq_false q) u2⟩
theorem sl_24_76 {a : Nat} (t3 : fx_oc (a + 3) 7 = true) : ∀ (n j : Nat) (s : gx_S), 8 < n + j → j ≤ 8 → ∃ u : gx_S, gm_24_76 n a j s = some u ∧ u.2 = s.2 ∧ (∀ k i, k ≠ a + 12 + 1 → u.1 k i = s.1 k i) ∧ ∀ i, u.1 (a + 12 + 1) i = if j ≤ i ∧ i < 8 then sg (fun x => s.1 (a + 3 + 8) (9 * x + i)) 8 else s.1 (a + 12 + 1) i := by
  intro n
  induction n with
  | zero => intro j s h; omega
  | succ n ih =>
    intro j s h hj
    rw [gm_24_76, if_pos (by omega)]
    by_cases q : j = 8
    · rw [if_pos (by omega)]
      exact ⟨s, rfl, rfl, fun _ _ _ => rfl, fun i => by rw [if_neg (by omega)]⟩
    · have ce : ((j : Int) + 1) = ((j + 1 : Nat) : Int) := rfl
      have i5 : ((j : Int)).toNat = j := by omega
      rw [if_neg (by omega), sp_76 t3 (by omega), Option.bind_some, if_pos (by omega), i5, ce]
      obtain ⟨u, u1, u2, u3, u4⟩ := ih (j + 1) (gw1 s (a + 12 + 1) j (sg (fun x => s.1 (a + 3 + 8) (9 * x + j)) 8)) (by omega) (by omega)
      refine ⟨u, u1, u2, fun k i h => by rw [u3 k i h, gw1_1, if_neg (fun x => h x.1)], fun i => ?_⟩
      rw [u4]
      by_cases e : i = j
      · rw [if_neg (show ¬ (j + 1 ≤ i ∧ i < 8) by omega), gw1_1, if_pos ⟨rfl, e⟩, if_pos (show j ≤ i ∧ i < 8 by omega), e]
      · by_cases e2 : j + 1 ≤ i ∧ i < 8
        · rw [if_pos e2, if_pos (show j ≤ i ∧ i < 8 by omega)]
          exact sg_eq fun x _ => by rw [gw1_1, if_neg (by omega)]
        · rw [if_neg e2, if_neg (show ¬ (j ≤ i ∧ i < 8) by omega), gw1_1, if_neg (fun x => e x.2)]
theorem sp_24 {s : gx_S} {f : Nat → Int} {R C g a : Nat} (m : MR s 1 f R C) (M : MP f R C) (h7 : f 2 = 7) (hg : g < 3) (h71 : 71 ≤ a) (ho : fx_oc a 2 = true) (t3 : fx_oc (a + 3) 7 = true) (ht : fx_oc (a + 12) 7 = true) (e9 : s.1 a 9 = g) (hT : TR s (a + 3) (f 3) (LV f R C g) (PMV f R C g)) : ∃ u w : gx_S, gm_24 a s = some u ∧ u.1 1 7 = f 3 ∧ gm_41 (a + 12) (f 3) u = some w ∧ TR w (a + 12) (f 3) (Pbk f R C g) (Abk f R C g) ∧ w.2 = s.2 ∧ ∀ k j, ¬ (7 ≤ k ∧ k ≤ 13) → ¬ (k = 6 ∧ j = 7) → ¬ (a + 13 ≤ k ∧ k ≤ a + 20) → w.1 k j = s.1 k j := by
  obtain ⟨c, b1, b2, b3, b4, b5⟩ := sp_68 s ht
  have mc : MR c 1 f R C := MR_o (fun k j h1 h2 => b5 k j (by omega) (by omega) (by omega)) m
  have c9 : c.1 a 9 = g := (b5 _ _ (by omega) (by omega) (by omega)).trans e9
  have hRC := RC_96 M.1.2.2.1 M.1.2.2.2
  obtain ⟨d, d1, d2, d3, d4⟩ := sl_24 M h7 hg h71 ht (R * C) 0 100000 c (by omega) (by omega) mc c9
  have d1 : gm_24_17 100000 a ((R * C : Nat) : Int) 0 c = _ := d1
  obtain ⟨u, u1, u2, u3, u4⟩ := sl_24_76 t3 100000 0 d (by omega) (by omega)
  have u1 : gm_24_76 100000 a 0 d = some u := u1
  have e45 : ∀ x y, x < 8 → y < 9 → u.1 (a + 12 + 4) (9 * x + y) = SO f R C g y x false ∧ u.1 (a + 12 + 5) (9 * x + y) = SO f R C g y x true := fun x y hx hy => by
    obtain ⟨q1, q2⟩ := d4 x y hx hy
    have z := b4 (9 * x + y) (by omega)
    rw [z.1] at q1
    rw [z.2] at q2
    rw [u3 _ _ (by omega), u3 _ _ (by omega), q1, q2, SO_pz2 M h7 hx false, SO_pz2 M h7 hx true]
    constructor
    · rw [Int.zero_add]
      exact sg_eq fun k _ => by rw [Nat.zero_add]; rfl
    · rw [Int.zero_add]
      exact sg_eq fun k _ => by rw [Nat.zero_add]; rfl
  obtain ⟨pa, p8⟩ := PA_bk M h7 hg
  have hb : ∀ i, i < 72 → (0 ≤ u.1 (a + 12 + 4) i ∧ u.1 (a + 12 + 4) i ≤ 1000000) ∧ (0 ≤ u.1 (a + 12 + 5) i ∧ u.1 (a + 12 + 5) i ≤ 1000000) := fun i hi => by
    have e : 9 * (i / 9) + i % 9 = i := by omega
    have q := e45 (i / 9) (i % 9) (by omega) (by omega)
    rw [e] at q
    rw [q.1, q.2]
    have r1 := SO_r M h7 hg ((i % 9 : Nat) : Int) ((i / 9 : Nat) : Int) false
    have r2 := SO_r M h7 hg ((i % 9 : Nat) : Int) ((i / 9 : Nat) : Int) true
    omega
  have hp : ∀ x, x < 8 → u.1 (a + 12 + 1) x = Pbk f R C g x := fun x hx => by
    rw [u4, if_pos ⟨by omega, hx⟩]
    unfold Pbk
    refine sg_eq fun z hz => ?_
    rw [d3 _ _ (by omega) (by omega), b5 _ _ (by omega) (by omega) (by omega)]
    exact ((hT z hz).2.2 x (by omega)).2.2.2
  obtain ⟨w, w1, w2, w3, _⟩ := TR_class (t := a + 12) ht M.2.2.1 pa (fun _ => p8) hp hb fun x y hx hy => am_SO (T := Abk f R C g) (R := R) (C := C) (f := f) (g := g) (fun x y b => SO f R C g y x b) (fun y hy => (e45 x y hx hy).1) (fun y hy => (e45 x y hx hy).2) hy (by
    unfold Abk
    rw [SO_col M h7 (x : Int) false])
  refine ⟨u, w, ?_, ?_, w1, w2, ?_, fun k j h1 h2 h3 => ?_⟩
  · unfold gm_24
    rw [if_pos ho, b1, Option.bind_some, sp_58 (MR_cz mc M), Option.bind_some, d1, u1]
  · rw [u3 1 7 (by omega), d3 1 7 (by omega) (by omega)]
    exact mc.2.2.2.1
  · rw [w3.1, u2, d2]
    exact b2
  · rw [w3.2 k j h1 h2 (by omega) (by omega), u3 k j (by omega), d3 k j (by omega) (by omega), b5 k j (by omega) (by omega) (by omega)]
theorem rd_4 {s : gx_S} {f : Nat → Int} {R C g a D : Nat} (m : MR s 1 f R C) (M : MP f R C) (h7 : f 2 = 7) (hg : g < 3) (ha : ga a) (G : GGD s f R C g a D) (l1 : D / 1 % 2 = 1) (l2 : D / 2 % 2 = 1) : ∃ (D' : Nat) (u : gx_S), gm_19_59 a 4 s = gm_19_103 a 4 u ∧ KG a s u ∧ GGD u f R C g a D' ∧ D' / 4 % 2 = 1 ∧ D' / 1 % 2 = 1 ∧ D' / 2 % 2 = 1 := by
  obtain ⟨a71, a215, ho, t3, t12, t21, t30, t39⟩ := id ha
  obtain ⟨hD, e8, e9, g1, g2, g4, g8, g16, g32⟩ := G
  obtain ⟨D', t, q1, q2, q3, q4, q5, q6, q7⟩ := sp_21 (w := 4) ho hD (by decide) e8
  have q1 : gm_21 a 4 s = some (decide (¬ D / 4 % 2 = 1), t) := q1
  have n1 := q7 1 (by decide) (by decide)
  have n2 := q7 2 (by decide) (by decide)
  have n8 := q7 8 (by decide) (by decide)
  have n16 := q7 16 (by decide) (by decide)
  have n32 := q7 32 (by decide) (by decide)
  have to : ∀ k j, ¬ (k = a ∧ j = 8) → t.1 k j = s.1 k j := q3
  obtain ⟨li1, li2, li3⟩ := g1 l1
  unfold gm_19_59
  rw [if_pos (by decide), if_neg (by decide), q1, Option.bind_some]
  by_cases z : D / 4 % 2 = 1
  · rw [decide_eq_false (fun h => h z), if_pos (show gb (false, t).1 = 0 from (by decide : gb false = 0))]
    refine ⟨D', t, rfl, ⟨q2, fun k j h1 h2 => to k j (by omega)⟩, ⟨q5, q4, (to a 9 (by omega)).trans e9, fun _ => ⟨fun z hz => (to _ _ (by omega)).trans (li1 z hz), (to _ _ (by omega)).trans li2, (to _ _ (by omega)).trans li3⟩, fun h => ?_, fun h => ?_, fun h => ?_, fun h => ?_, fun h => ?_⟩, q6, n1.trans l1, n2.trans l2⟩
    · exact ⟨n1.trans l1, TM_o (fun k j h1 h2 => to k j (by omega)) (g2 l2).2⟩
    · exact TR_o (fun k j h1 h2 => to k j (by omega)) (g4 z)
    · exact ⟨n1.trans l1, TR_o (fun k j h1 h2 => to k j (by omega)) (g8 (n8 ▸ h)).2⟩
    · exact TR_o (fun k j h1 h2 => to k j (by omega)) (g16 (n16 ▸ h))
    · obtain ⟨x1, x2⟩ := g32 (n32 ▸ h)
      exact ⟨n2.trans l2, fun k hk => by rw [to _ _ (by omega)]; exact x2 k hk⟩
  · rw [decide_eq_true z, if_neg (show ¬ gb (true, t).1 = 0 from (by decide : ¬ gb true = 0))]
    have mt : MR t 1 f R C := MR_o (fun k j h1 h2 => to k j (by omega)) m
    obtain ⟨u, w, u1, u2, u3, u4, u5, u6⟩ := sp_24 mt M h7 hg a71 ho t3 t12 ((to a 9 (by omega)).trans e9) (TM_o (fun k j h1 h2 => to k j (by omega)) (g2 l2).2).1
    have wo : ∀ k j, a ≤ k → ¬ (k = a ∧ j = 8) → ¬ (a + 13 ≤ k ∧ k ≤ a + 20) → w.1 k j = s.1 k j := fun k j h1 h2 h3 => (u6 k j (by omega) (by omega) h3).trans (to k j h2)
    have w8 : w.1 a 8 = D' := (u6 a 8 (by omega) (by omega) (by omega)).trans q4
    have m3 := M.2.2.1
    have st : ((gm_24 a (true, t).2).bind fun q7 => if (-2147483648 ≤ (q7.1 1 7) ∧ (q7.1 1 7) ≤ 2147483647) then (if ¬ (q7.1 1 7) = 1 then gm_19_100 a 4 (a + 12) 0 q7 else gm_19_100 a 4 (a + 12) 1 q7) else none) = gm_19_103 a 4 w := by
      show ((gm_24 a t).bind _) = _
      rw [u1, Option.bind_some, u2, if_pos (by omega)]
      unfold gm_19_100
      rcases m3 with e | e
      · rw [e] at u3
        rw [if_pos (by rw [e]; decide), u3, Option.bind_some]
      · rw [e] at u3
        rw [if_neg (by rw [e]; decide), u3, Option.bind_some]
    rw [st]
    refine ⟨D', w, rfl, ⟨u5.trans q2, fun k j h1 h2 => (u6 k j (by omega) (by omega) (by omega)).trans (to k j (by omega))⟩, ⟨q5, w8, (wo a 9 (by omega) (by omega) (by omega)).trans e9, fun _ => ⟨fun z hz => (wo _ _ (by omega) (by omega) (by omega)).trans (li1 z hz), (wo _ _ (by omega) (by omega) (by omega)).trans li2, (wo _ _ (by omega) (by omega) (by omega)).trans li3⟩, fun _ => ⟨n1.trans l1, TM_o (fun k j h1 h2 => wo k j (by omega) (by omega) (by omega)) (g2 l2).2⟩, fun _ => u4, fun h => ?_, fun h => ?_, fun h => ?_⟩, q6, n1.trans l1, n2.trans l2⟩
    · exact ⟨n1.trans l1, TR_o (fun k j h1 h2 => wo k j (by omega) (by omega) (by omega)) (g8 (n8 ▸ h)).2⟩
    · exact TR_o (fun k j h1 h2 => wo k j (by omega) (by omega) (by omega)) (g16 (n16 ▸ h))
    · obtain ⟨x1, x2⟩ := g32 (n32 ▸ h)
      exact ⟨n2.trans l2, fun k hk => by rw [wo _ _ (by omega) (by omega) (by omega)]; exact x2 k hk⟩
end
section
/-! THE CLASS: the coarse table -/
theorem dsc_r {f : Nat → Int} {R C : Nat} (M : MP f R C) {y : Nat} (hy : y < 9) : 0 ≤ dsc f y ∧ dsc f y ≤ 4 ∧ (y < 8 → dsc f y ≤ 3 ∧ dsc f y = f (44 + y)) := by
  unfold dsc
  by_cases q : y = 8
  · rw [if_pos q]
    omega
  · rw [if_neg q]
    have := M.2.2.2.2.2.2.1 y (by omega)
    omega
/-- amounts of the coarse table, by weights or by cells -/
def Fco (f : Nat → Int) (R C g x d : Nat) (b : Bool) : Int := sg (fun y => if dsc f y = (d : Int) then SO f R C g x y b else 0) 9
theorem Fco_pz {f : Nat → Int} {R C g x d : Nat} (M : MP f R C) (h7 : f 2 = 7) (hx : x < 8) (b : Bool) : Fco f R C g x d b = sg (pz (fun k => decide (co f C 0 k < 8)) (co f C 0) (fun k => (dsc f (co f C 1 k)).toNat) (fun k => if b = true then 1 else wt f C g k) x d) (R * C) := by
  have e : Fco f R C g x d b = sg (fun y => sg (fun k => if dsc f y = (d : Int) then pz (fun k => decide (co f C 0 k < 8)) (co f C 0) (co f C 1) (fun k => if b = true then 1 else wt f C g k) x y k else 0) (R * C)) 9 := sg_eq fun y hy => by
    by_cases q : dsc f y = (d : Int)
    · rw [if_pos q, SO_pz M h7 hx b]
      exact sg_eq fun k _ => by rw [if_pos q]
    · rw [if_neg q, sg_0 fun k _ => if_neg q]
  rw [e, sg_swap (fun y k => if dsc f y = (d : Int) then pz (fun k => decide (co f C 0 k < 8)) (co f C 0) (co f C 1) (fun k => if b = true then 1 else wt f C g k) x y k else 0) (R * C) 9]
  refine sg_eq fun k hk => ?_
  obtain ⟨_, ⟨_, c1⟩, _⟩ := co_s M h7 hk
  have dr := dsc_r M (show co f C 1 k < 9 by omega)
  rw [sg_single (i := co f C 1 k) (by omega) fun y hy hn => by
    have z : pz (fun k => decide (co f C 0 k < 8)) (co f C 0) (co f C 1) (fun k => if b = true then 1 else wt f C g k) x y k = 0 := if_neg fun h => hn h.2.2.symm
    rw [z]
    split <;> rfl]
  unfold pz
  by_cases q : dsc f (co f C 1 k) = (d : Int)
  · rw [if_pos q]
    by_cases q2 : decide (co f C 0 k < 8) = true ∧ co f C 0 k = x
    · rw [if_pos ⟨q2.1, q2.2, rfl⟩, if_pos ⟨q2.1, q2.2, show (dsc f (co f C 1 k)).toNat = d by omega⟩]
    · rw [if_neg (fun h => q2 ⟨h.1, h.2.1⟩), if_neg (fun h => q2 ⟨h.1, h.2.1⟩)]
  · rw [if_neg q, if_neg (fun h => q (by
      have h' : (dsc f (co f C 1 k)).toNat = d := h.2.2
      omega))]
theorem sum_dsc {f : Nat → Int} {R C : Nat} (M : MP f R C) (h : Nat → Int) : sg (fun d => sg (fun y => if dsc f y = ((d : Nat) : Int) then h y else 0) 9) 9 = sg h 9 := by
  rw [sg_swap (fun d y => if dsc f y = ((d : Nat) : Int) then h y else 0) 9 9]
  refine sg_eq fun y hy => ?_
  have dr := dsc_r M hy
  rw [sg_single (i := (dsc f y).toNat) (by omega) fun d hd hn => if_neg fun h => hn (by omega)]
  exact if_pos (by omega)
theorem PA_co {f : Nat → Int} {R C g : Nat} (M : MP f R C) (h7 : f 2 = 7) (hg : g < 3) : PA (LV f R C g) (Aco f R C g) ∧ sg (fun x => sg (fun y => Aco f R C g x y) 9) 8 ≤ 864 ∧ (∀ x d, d < 9 → 4 < d → Aco f R C g x d = 0) ∧ ∀ x, sg (fun d => Aco f R C g x d) 9 = sg (fun y => PMV f R C g x y) 9 := by
  obtain ⟨p1, p2⟩ := PA_mv M h7 hg
  have rows : ∀ x, sg (fun d => Aco f R C g x d) 9 = sg (fun y => PMV f R C g x y) 9 := fun x => sum_dsc M (fun y => PMV f R C g x y)
  have nn : ∀ x y, 0 ≤ PMV f R C g x y := fun x y => (SO_r M h7 hg x y _).1
  have B : sg (fun x => sg (fun y => Aco f R C g x y) 9) 8 ≤ 864 := by
    rw [sg_eq (g := fun x => sg (fun y => PMV f R C g x y) 9) fun x _ => rows x]
    exact p2
  have an : ∀ x d, 0 ≤ Aco f R C g x d := fun x d => sg_nn fun y _ => by
    show 0 ≤ (if dsc f y = (d : Int) then PMV f R C g x y else 0)
    split
    · exact nn x y
    · exact Int.le_refl 0
  refine ⟨⟨p1.1, fun x y hx hy => ⟨an x y, ?_⟩, by omega⟩, B, fun x d _ h4 => sg_0 fun y hy => if_neg fun h => ?_, rows⟩
  · have a := sg_at (f := fun y => Aco f R C g x y) (n := 9) (fun k _ => an x k) y hy
    have b := sg_at (f := fun x => sg (fun y => Aco f R C g x y) 9) (n := 8) (fun k _ => sg_nn fun y _ => an k y) x hx
    omega
  · have := dsc_r M hy
    omega
theorem sl_25 {f : Nat → Int} {R C g a : Nat} (M : MP f R C) (h7 : f 2 = 7) (hg : g < 3) (h71 : 71 ≤ a) (ht : fx_oc (a + 21) 7 = true) : ∀ (r k n : Nat) (s : gx_S), k + r = R * C → r < n → MR s 1 f R C → s.1 a 9 = g → ∃ u : gx_S, gm_25_35 n a ((R * C : Nat) : Int) k s = some u ∧ AC (a + 21) s u (fun x y => sg (fun i => pz (fun k => decide (co f C 0 k < 8)) (co f C 0) (fun k => (dsc f (co f C 1 k)).toNat) (wt f C g) x y (k + i)) r) (fun x y => sg (fun i => pz (fun k => decide (co f C 0 k < 8)) (co f C 0) (fun k => (dsc f (co f C 1 k)).toNat) (fun _ => 1) x y (k + i)) r) := by
  have hRC := RC_96 M.1.2.2.1 M.1.2.2.2
  intro r
  induction r with
  | zero =>
    intro k n s hk hn m e9
    obtain ⟨n, rfl⟩ : ∃ n', n = n' + 1 := ⟨n - 1, by omega⟩
    refine ⟨s, ?_, AC_0 _ _ (fun x y i => pz (fun k => decide (co f C 0 k < 8)) (co f C 0) (fun k => (dsc f (co f C 1 k)).toNat) (wt f C g) x y (k + i)) (fun x y i => pz (fun k => decide (co f C 0 k < 8)) (co f C 0) (fun k => (dsc f (co f C 1 k)).toNat) (fun _ => 1) x y (k + i))⟩
    rw [gm_25_35, if_pos (by omega), if_pos (by omega), if_pos (by omega)]
  | succ r ih =>
    intro k n s hk hn m e9
    obtain ⟨n, rfl⟩ : ∃ n', n = n' + 1 := ⟨n - 1, by omega⟩
    have hkl : k < R * C := by omega
    have ce : ((k : Int) + 1) = ((k + 1 : Nat) : Int) := rfl
    obtain ⟨⟨_, c0⟩, ⟨_, c1⟩, ⟨_, c2⟩⟩ := co_s M h7 hkl
    obtain ⟨g0, g1, g2⟩ := sp_60g m M h7 hkl
    have g3 := sp_61g m M h7 hg hkl
    have dr := dsc_r M (show co f C 1 k < 9 by omega)
    rw [gm_25_35, if_pos (by omega), if_pos (by omega), if_neg (by omega), g0, Option.bind_some]
    show ∃ u : gx_S, ((gm_60 1 1 k s).bind _) = some u ∧ _
    rw [g1, Option.bind_some, if_pos (by omega)]
    by_cases q : co f C 0 k < 8
    · have ad : gm_25_88 (gm_25_35 n) a ((R * C : Nat) : Int) k (co f C 0 k) (dsc f (co f C 1 k)) s = gm_25_35 n a ((R * C : Nat) : Int) ((k + 1 : Nat) : Int) (adt s (a + 21) (co f C 0 k) (dsc f (co f C 1 k)).toNat (wt f C g k) 1) := by
        unfold gm_25_88
        rw [e9, g3, Option.bind_some]
        have c69 := sp_69 (t := a + 21) (x := co f C 0 k) (y := (dsc f (co f C 1 k)).toNat) (v := wt f C g k) (w := 1) s ht q (by omega)
        rw [show (((dsc f (co f C 1 k)).toNat : Nat) : Int) = dsc f (co f C 1 k) by omega] at c69
        show ((gm_69 (a + 21) (co f C 0 k : Int) (dsc f (co f C 1 k)) (wt f C g k) 1 s).bind _) = _
        rw [c69, Option.bind_some]
        unfold gm_25_113
        rw [ce]
      have go : (if (-2147483648 ≤ (co f C 1 k : Int) ∧ (co f C 1 k : Int) ≤ 2147483647) then (if 8 ≤ (co f C 1 k : Int) then gm_25_88 (gm_25_35 n) a ((R * C : Nat) : Int) k (co f C 0 k) 4 s else (if 0 ≤ (co f C 1 k : Int) ∧ (co f C 1 k : Int) < 8 then gm_25_88 (gm_25_35 n) a ((R * C : Nat) : Int) k (co f C 0 k) (s.1 5 (co f C 1 k : Int).toNat) s else none)) else none) = gm_25_88 (gm_25_35 n) a ((R * C : Nat) : Int) k (co f C 0 k) (dsc f (co f C 1 k)) s := by
        rw [if_pos (by omega)]
        by_cases q2 : co f C 1 k < 8
        · rw [if_neg (by omega), if_pos (by omega), show ((co f C 1 k : Int)).toNat = co f C 1 k by omega]
          have e5 := m.2.2.2.2.2.2.2.1 (co f C 1 k) q2
          rw [show (1 : Nat) + 4 = 5 from rfl] at e5
          rw [e5, (dr.2.2 q2).2]
        · rw [if_pos (by omega), show dsc f (co f C 1 k) = 4 from if_pos (by omega)]
      rw [if_neg (by omega)]
      show ∃ u : gx_S, (if (-2147483648 ≤ (co f C 1 k : Int) ∧ (co f C 1 k : Int) ≤ 2147483647) then (if 8 ≤ (co f C 1 k : Int) then gm_25_88 (gm_25_35 n) a ((R * C : Nat) : Int) k (co f C 0 k) 4 s else (if 0 ≤ (co f C 1 k : Int) ∧ (co f C 1 k : Int) < 8 then gm_25_88 (gm_25_35 n) a ((R * C : Nat) : Int) k (co f C 0 k) (s.1 5 (co f C 1 k : Int).toNat) s else none)) else none) = some u ∧ _
      rw [go, ad]
      obtain ⟨u, u1, u2⟩ := ih (k + 1) n (adt s (a + 21) (co f C 0 k) (dsc f (co f C 1 k)).toNat (wt f C g k) 1) (by omega) (by omega) (MR_adt (by omega) m) ((adt_o _ _ _ _ _ _ _ _ (by omega) (by omega)).trans e9)
      exact ⟨u, u1, AC_add (K := fun k => decide (co f C 0 k < 8)) (X := co f C 0) (Y := fun k => (dsc f (co f C 1 k)).toNat) (w := wt f C g) (decide_eq_true q) q (show (dsc f (co f C 1 k)).toNat < 9 by omega) u2⟩
    · rw [if_pos (by omega)]
      unfold gm_25_113
      rw [ce]
      obtain ⟨u, u1, u2⟩ := ih (k + 1) n s (by omega) (by omega) m e9
      exact ⟨u, u1, AC_skip (K := fun k => decide (co f C 0 k < 8)) (decide_eq_false q) u2⟩
theorem sp_25 {s : gx_S} {f : Nat → Int} {R C g a : Nat} (m : MR s 1 f R C) (M : MP f R C) (h7 : f 2 = 7) (hg : g < 3) (h71 : 71 ≤ a) (ho : fx_oc a 2 = true) (ht : fx_oc (a + 21) 7 = true) (e9 : s.1 a 9 = g) (hl : ∀ z, z < 8 → s.1 (a + 1) z = LV f R C g z) : ∃ u w : gx_S, gm_25 a s = some u ∧ u.1 1 7 = f 3 ∧ gm_41 (a + 21) (f 3) u = some w ∧ TR w (a + 21) (f 3) (LV f R C g) (Aco f R C g) ∧ w.2 = s.2 ∧ ∀ k j, ¬ (7 ≤ k ∧ k ≤ 13) → ¬ (k = 6 ∧ j = 7) → ¬ (a + 22 ≤ k ∧ k ≤ a + 29) → w.1 k j = s.1 k j := by
  obtain ⟨b, b1, b2, b3, b4, b5⟩ := sp_68 s ht
  obtain ⟨c, hc⟩ : ∃ c, c = gcp b (a + 1) 0 (a + 21 + 1) 0 8 := ⟨_, rfl⟩
  have ck : ∀ k i, k ≠ a + 21 + 1 → c.1 k i = b.1 k i := fun k i h => by
    rw [hc]
    exact if_neg fun x => h x.1
  have c1 : ∀ x, x < 8 → c.1 (a + 21 + 1) x = LV f R C g x := fun x hx => by
    rw [hc]
    show (if a + 21 + 1 = a + 21 + 1 ∧ 0 ≤ x ∧ x < 0 + 8 then b.1 (a + 1) (0 + (x - 0)) else b.1 (a + 21 + 1) x) = _
    rw [if_pos ⟨rfl, by omega, by omega⟩, show 0 + (x - 0) = x by omega, b5 _ _ (by omega) (by omega) (by omega)]
    exact hl x hx
  have mc : MR c 1 f R C := MR_o (fun k j h1 h2 => (ck k j (by omega)).trans (b5 k j (by omega) (by omega) (by omega))) m
  have c9 : c.1 a 9 = g := by rw [ck _ _ (by omega), b5 _ _ (by omega) (by omega) (by omega)]; exact e9
  have hRC := RC_96 M.1.2.2.1 M.1.2.2.2
  obtain ⟨u, u1, u2, u3, u4⟩ := sl_25 M h7 hg h71 ht (R * C) 0 100000 c (by omega) (by omega) mc c9
  have u1 : gm_25_35 100000 a ((R * C : Nat) : Int) 0 c = some u := u1
  have e45 : ∀ x y, x < 8 → y < 9 → u.1 (a + 21 + 4) (9 * x + y) = Fco f R C g x y false ∧ u.1 (a + 21 + 5) (9 * x + y) = Fco f R C g x y true := fun x y hx hy => by
    obtain ⟨q1, q2⟩ := u4 x y hx hy
    have z := b4 (9 * x + y) (by omega)
    rw [ck _ _ (by omega), z.1] at q1
    rw [ck _ _ (by omega), z.2] at q2
    rw [q1, q2, Fco_pz M h7 hx false, Fco_pz M h7 hx true]
    constructor
    · rw [Int.zero_add]
      exact sg_eq fun k _ => by rw [Nat.zero_add]; rfl
    · rw [Int.zero_add]
      exact sg_eq fun k _ => by rw [Nat.zero_add]; rfl
  obtain ⟨pa, p8, p0, prow⟩ := PA_co M h7 hg
  have Fb : ∀ x d b, 0 ≤ Fco f R C g x d b ∧ Fco f R C g x d b ≤ 864 := fun x d b => by
    have nn : ∀ y : Nat, 0 ≤ SO f R C g x y b := fun y => (SO_r M h7 hg x y b).1
    refine ⟨sg_nn fun y _ => ?_, ?_⟩
    · show 0 ≤ (if dsc f y = (d : Int) then SO f R C g x y b else 0)
      split
      · exact nn y
      · exact Int.le_refl 0
    · have e := sg_le (f := fun y => if dsc f y = (d : Int) then SO f R C g x ((y : Nat) : Int) b else 0) (g := fun y => SO f R C g x ((y : Nat) : Int) b) (n := 9) fun y _ => by
        show (if dsc f y = (d : Int) then SO f R C g x y b else 0) ≤ SO f R C g x y b
        split
        · exact Int.le_refl _
        · exact nn y
      rw [SO_row M h7 x b] at e
      have := (SO_r M h7 hg x (-1) b).2
      unfold Fco
      omega
  have hb : ∀ i, i < 72 → (0 ≤ u.1 (a + 21 + 4) i ∧ u.1 (a + 21 + 4) i ≤ 1000000) ∧ (0 ≤ u.1 (a + 21 + 5) i ∧ u.1 (a + 21 + 5) i ≤ 1000000) := fun i hi => by
    have e : 9 * (i / 9) + i % 9 = i := by omega
    have q := e45 (i / 9) (i % 9) (by omega) (by omega)
    rw [e] at q
    rw [q.1, q.2]
    have r1 := Fb (i / 9) (i % 9) false
    have r2 := Fb (i / 9) (i % 9) true
    omega
  obtain ⟨w, w1, w2, w3, _⟩ := TR_class (t := a + 21) ht M.2.2.1 pa (fun _ => p8) (fun x hx => (u3 _ _ (by omega) (by omega)).trans (c1 x hx)) hb fun x y hx hy => am_SO (T := Aco f R C g) (R := R) (C := C) (f := f) (g := g) (fun x y b => Fco f R C g x y b) (fun y hy => (e45 x y hx hy).1) (fun y hy => (e45 x y hx hy).2) hy (by
    have e : sg (fun y => Fco f R C g x y false) 9 = SO f R C g x (-1) false := (sum_dsc M (fun y => SO f R C g x ((y : Nat) : Int) false)).trans (SO_row M h7 (x : Int) false)
    rw [e]
    rfl)
  refine ⟨u, w, ?_, ?_, w1, w2, ?_, fun k j h1 h2 h3 => ?_⟩
  · unfold gm_25
    rw [if_pos ho, b1, Option.bind_some, ← hc, sp_58 (MR_cz mc M), Option.bind_some, u1]
  · rw [u3 1 7 (by omega) (by omega)]
    exact mc.2.2.2.1
  · rw [w3.1, u2, hc]
    exact b2
  · rw [w3.2 k j h1 h2 (by omega) (by omega), u3 k j (by omega) (by omega), ck k j (by omega), b5 k j (by omega) (by omega) (by omega)]
theorem rd_8 {s : gx_S} {f : Nat → Int} {R C g a D : Nat} {what : Int} (hwt : what = 8 ∨ what = 16) (m : MR s 1 f R C) (M : MP f R C) (h7 : f 2 = 7) (hg : g < 3) (ha : ga a) (G : GGD s f R C g a D) (l1 : D / 1 % 2 = 1) : ∃ (D' : Nat) (u : gx_S), gm_19_103 a what s = gm_19_155 a what u ∧ KG a s u ∧ GGD u f R C g a D' ∧ D' / 8 % 2 = 1 ∧ D' / 1 % 2 = 1 := by
  obtain ⟨a71, a215, ho, t3, t12, t21, t30, t39⟩ := id ha
  obtain ⟨hD, e8, e9, g1, g2, g4, g8, g16, g32⟩ := G
  obtain ⟨D', t, q1, q2, q3, q4, q5, q6, q7⟩ := sp_21 (w := 8) ho hD (by decide) e8
  have q1 : gm_21 a 8 s = some (decide (¬ D / 8 % 2 = 1), t) := q1
  have n1 := q7 1 (by decide) (by decide)
  have n2 := q7 2 (by decide) (by decide)
  have n4 := q7 4 (by decide) (by decide)
  have n16 := q7 16 (by decide) (by decide)
  have n32 := q7 32 (by decide) (by decide)
  have to : ∀ k j, ¬ (k = a ∧ j = 8) → t.1 k j = s.1 k j := q3
  obtain ⟨li1, li2, li3⟩ := g1 l1
  have hd : gm_19_103 a what s = gm_19_115 a what s := by
    unfold gm_19_103
    rcases hwt with e | e
    · rw [e, if_pos (by decide), if_pos rfl]
    · rw [e, if_pos (by decide), if_neg (by decide), if_neg (by decide)]
  rw [hd]
  unfold gm_19_115
  rw [q1, Option.bind_some]
  by_cases z : D / 8 % 2 = 1
  · rw [decide_eq_false (fun h => h z), if_pos (show gb (false, t).1 = 0 from (by decide : gb false = 0))]
    refine ⟨D', t, rfl, ⟨q2, fun k j h1 h2 => to k j (by omega)⟩, ⟨q5, q4, (to a 9 (by omega)).trans e9, fun _ => ⟨fun z hz => (to _ _ (by omega)).trans (li1 z hz), (to _ _ (by omega)).trans li2, (to _ _ (by omega)).trans li3⟩, fun h => ?_, fun h => ?_, fun h => ?_, fun h => ?_, fun h => ?_⟩, q6, n1.trans l1⟩
    · exact ⟨n1.trans l1, TM_o (fun k j h1 h2 => to k j (by omega)) (g2 (n2 ▸ h)).2⟩
    · exact TR_o (fun k j h1 h2 => to k j (by omega)) (g4 (n4 ▸ h))
    · exact ⟨n1.trans l1, TR_o (fun k j h1 h2 => to k j (by omega)) (g8 z).2⟩
    · exact TR_o (fun k j h1 h2 => to k j (by omega)) (g16 (n16 ▸ h))
    · obtain ⟨x1, x2⟩ := g32 (n32 ▸ h)
      exact ⟨n2.trans x1, fun k hk => by rw [to _ _ (by omega)]; exact x2 k hk⟩
  · rw [decide_eq_true z, if_neg (show ¬ gb (true, t).1 = 0 from (by decide : ¬ gb true = 0))]
    have mt : MR t 1 f R C := MR_o (fun k j h1 h2 => to k j (by omega)) m
    obtain ⟨u, w, u1, u2, u3, u4, u5, u6⟩ := sp_25 mt M h7 hg a71 ho t21 ((to a 9 (by omega)).trans e9) fun z hz => (to _ _ (by omega)).trans (li1 z hz)
    have wo : ∀ k j, a ≤ k → ¬ (k = a ∧ j = 8) → ¬ (a + 22 ≤ k ∧ k ≤ a + 29) → w.1 k j = s.1 k j := fun k j h1 h2 h3 => (u6 k j (by omega) (by omega) h3).trans (to k j h2)
    have w8 : w.1 a 8 = D' := (u6 a 8 (by omega) (by omega) (by omega)).trans q4
    have m3 := M.2.2.1
    have st : ((gm_25 a (true, t).2).bind fun q5 => if (-2147483648 ≤ (q5.1 1 7) ∧ (q5.1 1 7) ≤ 2147483647) then (if ¬ (q5.1 1 7) = 1 then gm_19_152 a what (a + 21) 0 q5 else gm_19_152 a what (a + 21) 1 q5) else none) = gm_19_155 a what w := by
      show ((gm_25 a t).bind _) = _
      rw [u1, Option.bind_some, u2, if_pos (by omega)]
      unfold gm_19_152
      rcases m3 with e | e
      · rw [e] at u3
        rw [if_pos (by rw [e]; decide), u3, Option.bind_some]
      · rw [e] at u3
        rw [if_neg (by rw [e]; decide), u3, Option.bind_some]
    rw [st]
    refine ⟨D', w, rfl, ⟨u5.trans q2, fun k j h1 h2 => (u6 k j (by omega) (by omega) (by omega)).trans (to k j (by omega))⟩, ⟨q5, w8, (wo a 9 (by omega) (by omega) (by omega)).trans e9, fun _ => ⟨fun z hz => (wo _ _ (by omega) (by omega) (by omega)).trans (li1 z hz), (wo _ _ (by omega) (by omega) (by omega)).trans li2, (wo _ _ (by omega) (by omega) (by omega)).trans li3⟩, fun h => ?_, fun h => ?_, fun _ => ⟨n1.trans l1, u4⟩, fun h => ?_, fun h => ?_⟩, q6, n1.trans l1⟩
    · exact ⟨n1.trans l1, TM_o (fun k j h1 h2 => wo k j (by omega) (by omega) (by omega)) (g2 (n2 ▸ h)).2⟩
    · exact TR_o (fun k j h1 h2 => wo k j (by omega) (by omega) (by omega)) (g4 (n4 ▸ h))
    · exact TR_o (fun k j h1 h2 => wo k j (by omega) (by omega) (by omega)) (g16 (n16 ▸ h))
    · obtain ⟨x1, x2⟩ := g32 (n32 ▸ h)
      exact ⟨n2.trans x1, fun k hk => by rw [wo _ _ (by omega) (by omega) (by omega)]; exact x2 k hk⟩
end
section
/-! THE CLASS: the table of districts' ways -/
def Wwy (f : Nat → Int) (R C g d y : Nat) (b : Bool) : Int := if y < 8 ∧ dsc f y = (d : Int) then SO f R C g (-1) y b else 0
theorem Wwy_pz {f : Nat → Int} {R C g d y : Nat} (M : MP f R C) (h7 : f 2 = 7) (b : Bool) : Wwy f R C g d y b = sg (pz (fun k => decide (co f C 1 k < 8)) (fun k => (dsc f (co f C 1 k)).toNat) (co f C 1) (fun k => if b = true then 1 else wt f C g k) d y) (R * C) := by
  unfold Wwy
  by_cases q : y < 8 ∧ dsc f y = (d : Int)
  · rw [if_pos q]
    refine sg_eq fun k hk => ?_
    obtain ⟨⟨c0, _⟩, ⟨c1, _⟩, _⟩ := co_s M h7 hk
    unfold pz
    rw [c0, c1]
    by_cases q2 : co f C 1 k = y
    · rw [if_pos (show ((-1 : Int) = -1 ∨ (co f C 0 k : Int) = -1) ∧ (((y : Nat) : Int) = -1 ∨ (co f C 1 k : Int) = y) by omega), if_pos (show decide (co f C 1 k < 8) = true ∧ (dsc f (co f C 1 k)).toNat = d ∧ co f C 1 k = y from ⟨decide_eq_true (by omega), by rw [q2]; omega, q2⟩)]
      rfl
    · rw [if_neg (show ¬ (((-1 : Int) = -1 ∨ (co f C 0 k : Int) = -1) ∧ (((y : Nat) : Int) = -1 ∨ (co f C 1 k : Int) = y)) by omega), if_neg (fun h => q2 h.2.2)]
  · rw [if_neg q]
    refine (sg_0 fun k hk => ?_).symm
    obtain ⟨_, ⟨_, c1⟩, _⟩ := co_s M h7 hk
    have dr := dsc_r M (show co f C 1 k < 9 by omega)
    refine if_neg fun h => q ?_
    have h1 : co f C 1 k < 8 := of_decide_eq_true h.1
    have h2 : (dsc f (co f C 1 k)).toNat = d := h.2.1
    rw [h.2.2] at h1 h2 dr
    exact ⟨h1, by omega⟩
theorem Wwy_sum (f : Nat → Int) (R C g d : Nat) (b : Bool) : sg (fun y => Wwy f R C g d y b) 9 = sg (fun y => if dsc f y = (d : Int) then SO f R C g (-1) ((y : Nat) : Int) b else 0) 8 := by
  have e : sg (fun y => Wwy f R C g d y b) 9 = sg (fun y => Wwy f R C g d y b) 8 + Wwy f R C g d 8 b := rfl
  have z : Wwy f R C g d 8 b = 0 := if_neg (by omega)
  rw [e, z, Int.add_zero]
  refine sg_eq fun y hy => ?_
  unfold Wwy
  by_cases q : dsc f y = (d : Int)
  · rw [if_pos q, if_pos ⟨hy, q⟩]
  · rw [if_neg q, if_neg (fun h => q h.2)]
theorem Awy_W (f : Nat → Int) (R C g d y : Nat) : Awy f R C g d y = Wwy f R C g d y (decide (sg (fun y => Wwy f R C g d y false) 9 = 0)) := by
  rw [Wwy_sum]
  rfl
theorem PA_wy {f : Nat → Int} {R C g : Nat} (M : MP f R C) (h7 : f 2 = 7) (hg : g < 3) : PA (Pwy f R C g) (Awy f R C g) ∧ sg (fun x => sg (fun y => Awy f R C g x y) 9) 8 ≤ 864 ∧ ∀ x y, x < 8 → y < 9 → ¬ (x < 4 ∧ y < 8) → Awy f R C g x y = 0 := by
  obtain ⟨p1, p2, p3, p4⟩ := PA_co M h7 hg
  obtain ⟨t1, t2⟩ := TB_0 (md := f 3) M.2.2.1 p1 (fun _ => p2)
  obtain ⟨v1, v2, v3⟩ := GV_r M h7 hg
  have z0 : ∀ x y, x < 8 → y < 9 → ¬ (x < 4 ∧ y < 8) → Awy f R C g x y = 0 := fun x y hx hy hn => if_neg fun h => by
    have := (dsc_r M hy).2.2 h.1
    omega
  have W0 : ∀ d y b, 0 ≤ Wwy f R C g d y b := fun d y b => by
    unfold Wwy
    split
    · exact (SO_r M h7 hg (-1) y b).1
    · exact Int.le_refl 0
  have A0 : ∀ d y, 0 ≤ Awy f R C g d y := fun d y => by
    rw [Awy_W]
    exact W0 d y _
  have key : sg (fun d => sg (fun y => Awy f R C g d y) 9) 8 ≤ 864 := by
    rw [sg_swap (fun d y => Awy f R C g d y) 9 8]
    have B := SO_B M h7 hg (fun _ y => decide (sg (fun y' => if dsc f y' = (((dsc f y).toNat : Nat) : Int) then SO f R C g (-1) ((y' : Nat) : Int) false else 0) 8 = 0)) 9 8
    rw [← sg_swap (fun y x => SO f R C g ((x : Nat) : Int) ((y : Nat) : Int) (decide (sg (fun y' => if dsc f y' = (((dsc f y).toNat : Nat) : Int) then SO f R C g (-1) ((y' : Nat) : Int) false else 0) 8 = 0))) 9 8] at B
    have e8 : sg (fun c => sg (fun r => Awy f R C g r c) 8) 9 = sg (fun c => sg (fun r => Awy f R C g r c) 8) 8 := sg_cut0 (by omega) fun k h1 h2 => sg_0 fun d hd => z0 d k hd h2 (by omega)
    rw [e8]
    refine Int.le_trans (sg_le fun y hy => ?_) B
    have dr := dsc_r M (show y < 9 by omega)
    show sg (fun r => Awy f R C g r y) 8 ≤ sg (fun x => SO f R C g ((x : Nat) : Int) ((y : Nat) : Int) (decide (sg (fun y' => if dsc f y' = (((dsc f y).toNat : Nat) : Int) then SO f R C g (-1) ((y' : Nat) : Int) false else 0) 8 = 0))) 9
    have hL : sg (fun r => Awy f R C g r y) 8 = Awy f R C g (dsc f y).toNat y := sg_single (by omega) fun d hd hn => if_neg fun h => hn (by
      have := h.2
      omega)
    have hA : Awy f R C g (dsc f y).toNat y = SO f R C g (-1) y (decide (sg (fun y' => if dsc f y' = (((dsc f y).toNat : Nat) : Int) then SO f R C g (-1) ((y' : Nat) : Int) false else 0) 8 = 0)) := if_pos ⟨hy, by omega⟩
    have hR := SO_col (g := g) M h7 (y : Int) (decide (sg (fun y' => if dsc f y' = (((dsc f y).toNat : Nat) : Int) then SO f R C g (-1) ((y' : Nat) : Int) false else 0) 8 = 0))
    rw [hL, hA, hR]
    exact Int.le_refl _
  refine ⟨⟨fun x hx => ?_, fun x y hx hy => ⟨A0 x y, ?_⟩, by omega⟩, key, z0⟩
  · unfold Pwy
    split
    · have nn := sg_nn (f := fun z => GC_ f R C g z x) (n := 8) fun z hz => (t1 z x hz (by omega)).1
      have le := sg_le (f := fun z => GC_ f R C g z x) (g := LV f R C g) (n := 8) fun z hz => (t1 z x hz (by omega)).2
      omega
    · omega
  · have a := sg_at (f := fun y => Awy f R C g x y) (n := 9) (fun k _ => A0 x k) y hy
    have b := sg_at (f := fun x => sg (fun y => Awy f R C g x y) 9) (n := 8) (fun k _ => sg_nn fun y _ => A0 k y) x hx
    omega
theorem sl_26 {f : Nat → Int} {R C g a : Nat} (M : MP f R C) (h7 : f 2 = 7) (hg : g < 3) (h71 : 71 ≤ a) (ht : fx_oc (a + 30) 7 = true) : ∀ (r k n : Nat) (s : gx_S), k + r = R * C → r < n → MR s 1 f R C → s.1 a 9 = g → ∃ u : gx_S, gm_26_17 n a ((R * C : Nat) : Int) k s = gm_26_76 100000 a 0 u ∧ AC (a + 30) s u (fun x y => sg (fun i => pz (fun k => decide (co f C 1 k < 8)) (fun k => (dsc f (co f C 1 k)).toNat) (co f C 1) (wt f C g) x y (k + i)) r) (fun x y => sg (fun i => pz (fun k => decide (co f C 1 k < 8)) (fun k => (dsc f (co f C 1 k)).toNat) (co f C 1) (fun _ => 1) x y (k + i)) r) := by
  have hRC := RC_96 M.1.2.2.1 M.1.2.2.2
  intro r
  induction r with
  | zero =>
    intro k n s hk hn m e9
    obtain ⟨n, rfl⟩ : ∃ n', n = n' + 1 := ⟨n - 1, by omega⟩
    refine ⟨s, ?_, AC_0 _ _ (fun x y i => pz (fun k => decide (co f C 1 k < 8)) (fun k => (dsc f (co f C 1 k)).toNat) (co f C 1) (wt f C g) x y (k + i)) (fun x y i => pz (fun k => decide (co f C 1 k < 8)) (fun k => (dsc f (co f C 1 k)).toNat) (co f C 1) (fun _ => 1) x y (k + i))⟩
    rw [gm_26_17, if_pos (by omega), if_pos (by omega), if_pos (by omega)]
  | succ r ih =>
    intro k n s hk hn m e9
    obtain ⟨n, rfl⟩ : ∃ n', n = n' + 1 := ⟨n - 1, by omega⟩
    have hkl : k < R * C := by omega
    have ce : ((k : Int) + 1) = ((k + 1 : Nat) : Int) := rfl
    obtain ⟨⟨_, c0⟩, ⟨_, c1⟩, ⟨_, c2⟩⟩ := co_s M h7 hkl
    obtain ⟨g0, g1, g2⟩ := sp_60g m M h7 hkl
    have g3 := sp_61g m M h7 hg hkl
    have dr := dsc_r M (show co f C 1 k < 9 by omega)
    rw [gm_26_17, if_pos (by omega), if_pos (by omega), if_neg (by omega), g1, Option.bind_some, if_pos (by omega)]
    by_cases q : co f C 1 k < 8
    · have e5 := m.2.2.2.2.2.2.2.1 (co f C 1 k) q
      rw [show (1 : Nat) + 4 = 5 from rfl] at e5
      have c69 := sp_69 (t := a + 30) (x := (dsc f (co f C 1 k)).toNat) (y := co f C 1 k) (v := wt f C g k) (w := 1) s ht (by omega) (by omega)
      rw [show (((dsc f (co f C 1 k)).toNat : Nat) : Int) = dsc f (co f C 1 k) by omega, (dr.2.2 q).2] at c69
      rw [if_neg (by omega), if_pos (by omega)]
      show ∃ u : gx_S, ((gm_61 1 (s.1 a 9) k s).bind fun q12 => ((gm_69 (a + 30) (s.1 5 (co f C 1 k : Int).toNat) (co f C 1 k : Int) q12.1 1 q12.2).bind fun q14 => gm_26_68 (gm_26_17 n) a ((R * C : Nat) : Int) k q14)) = gm_26_76 100000 a 0 u ∧ _
      rw [e9, g3, Option.bind_some, show ((co f C 1 k : Int)).toNat = co f C 1 k by omega, e5, c69, Option.bind_some]
      unfold gm_26_68
      rw [ce, ← (dr.2.2 q).2]
      obtain ⟨u, u1, u2⟩ := ih (k + 1) n (adt s (a + 30) (dsc f (co f C 1 k)).toNat (co f C 1 k) (wt f C g k) 1) (by omega) (by omega) (MR_adt (by omega) m) ((adt_o _ _ _ _ _ _ _ _ (by omega) (by omega)).trans e9)
      exact ⟨u, u1, AC_add (K := fun k => decide (co f C 1 k < 8)) (X := fun k => (dsc f (co f C 1 k)).toNat) (Y := co f C 1) (w := wt f C g) (decide_eq_true q) (show (dsc f (co f C 1 k)).toNat < 8 by omega) (by omega) u2⟩
    · rw [if_pos (by omega)]
      unfold gm_26_68
      rw [ce]
      obtain ⟨u, u1, u2⟩ := ih (k + 1) n s (by omega) (by omega) m e9
      exact ⟨u, u1, AC_skip (K := fun k => decide (co f C 1 k < 8)) (decide_eq_false q) u2⟩
theorem sl_26_76 {a : Nat} (t21 : fx_oc (a + 21) 7 = true) : ∀ (n j : Nat) (s : gx_S), 4 < n + j → j ≤ 4 → ∃ u : gx_S, gm_26_76 n a j s = some u ∧ u.2 = s.2 ∧ (∀ k i, k ≠ a + 30 + 1 → u.1 k i = s.1 k i) ∧ ∀ i, u.1 (a + 30 + 1) i = if j ≤ i ∧ i < 4 then sg (fun x => s.1 (a + 21 + 8) (9 * x + i)) 8 else s.1 (a + 30 + 1) i := by
  intro n
  induction n with
  | zero => intro j s h; omega
  | succ n ih =>
    intro j s h hj
    rw [gm_26_76, if_pos (by omega)]
    by_cases q : j = 4
    · rw [if_pos (by omega)]
      exact ⟨s, rfl, rfl, fun _ _ _ => rfl, fun i => by rw [if_neg (by omega)]⟩
    · have ce : ((j : Int) + 1) = ((j + 1 : Nat) : Int) := rfl
      have i5 : ((j : Int)).toNat = j := by omega
      rw [if_neg (by omega), sp_76 t21 (by omega), Option.bind_some, if_pos (by omega), i5, ce]
      obtain ⟨u, u1, u2, u3, u4⟩ := ih (j + 1) (gw1 s (a + 30 + 1) j (sg (fun x => s.1 (a + 21 + 8) (9 * x + j)) 8)) (by omega) (by omega)
      refine ⟨u, u1, u2, fun k i h => by rw [u3 k i h, gw1_1, if_neg (fun x => h x.1)], fun i => ?_⟩
      rw [u4]
      by_cases e : i = j
      · rw [if_neg (show ¬ (j + 1 ≤ i ∧ i < 4) by omega), gw1_1, if_pos ⟨rfl, e⟩, if_pos (show j ≤ i ∧ i < 4 by omega), e]
      · by_cases e2 : j + 1 ≤ i ∧ i < 4
        · rw [if_pos e2, if_pos (show j ≤ i ∧ i < 4 by omega)]
          exact sg_eq fun x _ => by rw [gw1_1, if_neg (by omega)]
        · rw [if_neg e2, if_neg (show ¬ (j ≤ i ∧ i < 4) by omega), gw1_1, if_neg (fun x => e x.2)]
theorem sp_26 {s : gx_S} {f : Nat → Int} {R C g a : Nat} (m : MR s 1 f R C) (M : MP f R C) (h7 : f 2 = 7) (hg : g < 3) (h71 : 71 ≤ a) (ho : fx_oc a 2 = true) (t21 : fx_oc (a + 21) 7 = true) (ht : fx_oc (a + 30) 7 = true) (e9 : s.1 a 9 = g) (hT : TR s (a + 21) (f 3) (LV f R C g) (Aco f R C g)) : ∃ u w : gx_S, gm_26 a s = some u ∧ u.1 1 7 = f 3 ∧ gm_41 (a + 30) (f 3) u = some w ∧ TR w (a + 30) (f 3) (Pwy f R C g) (Awy f R C g) ∧ w.2 = s.2 ∧ ∀ k j, ¬ (7 ≤ k ∧ k ≤ 13) → ¬ (k = 6 ∧ j = 7) → ¬ (a + 31 ≤ k ∧ k ≤ a + 38) → w.1 k j = s.1 k j := by
  obtain ⟨c, b1, b2, b3, b4, b5⟩ := sp_68 s ht
  have mc : MR c 1 f R C := MR_o (fun k j h1 h2 => b5 k j (by omega) (by omega) (by omega)) m
  have c9 : c.1 a 9 = g := (b5 _ _ (by omega) (by omega) (by omega)).trans e9
  have hRC := RC_96 M.1.2.2.1 M.1.2.2.2
  obtain ⟨d, d1, d2, d3, d4⟩ := sl_26 M h7 hg h71 ht (R * C) 0 100000 c (by omega) (by omega) mc c9
  have d1 : gm_26_17 100000 a ((R * C : Nat) : Int) 0 c = _ := d1
  obtain ⟨u, u1, u2, u3, u4⟩ := sl_26_76 t21 100000 0 d (by omega) (by omega)
  have u1 : gm_26_76 100000 a 0 d = some u := u1
  have e45 : ∀ x y, x < 8 → y < 9 → u.1 (a + 30 + 4) (9 * x + y) = Wwy f R C g x y false ∧ u.1 (a + 30 + 5) (9 * x + y) = Wwy f R C g x y true := fun x y hx hy => by
    obtain ⟨q1, q2⟩ := d4 x y hx hy
    have z := b4 (9 * x + y) (by omega)
    rw [z.1] at q1
    rw [z.2] at q2
    rw [u3 _ _ (by omega), u3 _ _ (by omega), q1, q2, Wwy_pz M h7 false, Wwy_pz M h7 true]
    constructor
    · rw [Int.zero_add]
      exact sg_eq fun k _ => by rw [Nat.zero_add]; rfl
    · rw [Int.zero_add]
      exact sg_eq fun k _ => by rw [Nat.zero_add]; rfl
  obtain ⟨pa, p8, p0⟩ := PA_wy M h7 hg
  have Wb : ∀ x y b, 0 ≤ Wwy f R C g x y b ∧ Wwy f R C g x y b ≤ 864 := fun x y b => by
    unfold Wwy
    split
    · exact SO_r M h7 hg (-1) y b
    · omega
  have hb : ∀ i, i < 72 → (0 ≤ u.1 (a + 30 + 4) i ∧ u.1 (a + 30 + 4) i ≤ 1000000) ∧ (0 ≤ u.1 (a + 30 + 5) i ∧ u.1 (a + 30 + 5) i ≤ 1000000) := fun i hi => by
    have e : 9 * (i / 9) + i % 9 = i := by omega
    have q := e45 (i / 9) (i % 9) (by omega) (by omega)
    rw [e] at q
    rw [q.1, q.2]
    have r1 := Wb (i / 9) (i % 9) false
    have r2 := Wb (i / 9) (i % 9) true
    omega
  have hp : ∀ x, x < 8 → u.1 (a + 30 + 1) x = Pwy f R C g x := fun x hx => by
    unfold Pwy
    rw [u4]
    by_cases q : x < 4
    · rw [if_pos ⟨by omega, q⟩, if_pos q]
      refine sg_eq fun z hz => ?_
      rw [d3 _ _ (by omega) (by omega), b5 _ _ (by omega) (by omega) (by omega)]
      exact ((hT z hz).2.2 x (by omega)).2.2.2
    · rw [if_neg (fun h => q h.2), if_neg q, d3 _ _ (by omega) (by omega), b3 x hx]
  obtain ⟨w, w1, w2, w3, _⟩ := TR_class (t := a + 30) ht M.2.2.1 pa (fun _ => p8) hp hb fun x y hx hy => am_SO (T := Awy f R C g) (R := R) (C := C) (f := f) (g := g) (fun x y b => Wwy f R C g x y b) (fun y hy => (e45 x y hx hy).1) (fun y hy => (e45 x y hx hy).2) hy (Awy_W f R C g x y)
  refine ⟨u, w, ?_, ?_, w1, w2, ?_, fun k j h1 h2 h3 => ?_⟩
  · unfold gm_26
    rw [if_pos ho, b1, Option.bind_some, sp_58 (MR_cz mc M), Option.bind_some, d1, u1]
  · rw [u3 1 7 (by omega), d3 1 7 (by omega) (by omega)]
    exact mc.2.2.2.1
  · rw [w3.1, u2, d2]
    exact b2
  · rw [w3.2 k j h1 h2 (by omega) (by omega), u3 k j (by omega), d3 k j (by omega) (by omega), b5 k j (by omega) (by omega) (by omega)]
theorem rd_16 {s : gx_S} {f : Nat → Int} {R C g a D : Nat} (m : MR s 1 f R C) (M : MP f R C) (h7 : f 2 = 7) (hg : g < 3) (ha : ga a) (G : GGD s f R C g a D) (l1 : D / 1 % 2 = 1) (l8 : D / 8 % 2 = 1) : ∃ (D' : Nat) (u : gx_S), gm_19_155 a 16 s = gm_19_201 a 16 u ∧ KG a s u ∧ GGD u f R C g a D' ∧ D' / 16 % 2 = 1 ∧ D' / 8 % 2 = 1 := by
  obtain ⟨a71, a215, ho, t3, t12, t21, t30, t39⟩ := id ha
  obtain ⟨hD, e8, e9, g1, g2, g4, g8, g16, g32⟩ := G
  obtain ⟨D', t, q1, q2, q3, q4, q5, q6, q7⟩ := sp_21 (w := 16) ho hD (by decide) e8
  have q1 : gm_21 a 16 s = some (decide (¬ D / 16 % 2 = 1), t) := q1
  have n1 := q7 1 (by decide) (by decide)
  have n2 := q7 2 (by decide) (by decide)
  have n4 := q7 4 (by decide) (by decide)
  have n8 := q7 8 (by decide) (by decide)
  have n32 := q7 32 (by decide) (by decide)
  have to : ∀ k j, ¬ (k = a ∧ j = 8) → t.1 k j = s.1 k j := q3
  obtain ⟨li1, li2, li3⟩ := g1 l1
  unfold gm_19_155
  rw [if_pos (by decide), if_neg (by decide), q1, Option.bind_some]
  by_cases z : D / 16 % 2 = 1
  · rw [decide_eq_false (fun h => h z), if_pos (show gb (false, t).1 = 0 from (by decide : gb false = 0))]
    refine ⟨D', t, rfl, ⟨q2, fun k j h1 h2 => to k j (by omega)⟩, ⟨q5, q4, (to a 9 (by omega)).trans e9, fun _ => ⟨fun z hz => (to _ _ (by omega)).trans (li1 z hz), (to _ _ (by omega)).trans li2, (to _ _ (by omega)).trans li3⟩, fun h => ?_, fun h => ?_, fun h => ?_, fun h => ?_, fun h => ?_⟩, q6, n8.trans l8⟩
    · exact ⟨n1.trans l1, TM_o (fun k j h1 h2 => to k j (by omega)) (g2 (n2 ▸ h)).2⟩
    · exact TR_o (fun k j h1 h2 => to k j (by omega)) (g4 (n4 ▸ h))
    · exact ⟨n1.trans l1, TR_o (fun k j h1 h2 => to k j (by omega)) (g8 l8).2⟩
    · exact TR_o (fun k j h1 h2 => to k j (by omega)) (g16 z)
    · obtain ⟨x1, x2⟩ := g32 (n32 ▸ h)
      exact ⟨n2.trans x1, fun k hk => by rw [to _ _ (by omega)]; exact x2 k hk⟩
  · rw [decide_eq_true z, if_neg (show ¬ gb (true, t).1 = 0 from (by decide : ¬ gb true = 0))]
    have mt : MR t 1 f R C := MR_o (fun k j h1 h2 => to k j (by omega)) m
    obtain ⟨u, w, u1, u2, u3, u4, u5, u6⟩ := sp_26 mt M h7 hg a71 ho t21 t30 ((to a 9 (by omega)).trans e9) (TR_o (fun k j h1 h2 => to k j (by omega)) (g8 l8).2)
    have wo : ∀ k j, a ≤ k → ¬ (k = a ∧ j = 8) → ¬ (a + 31 ≤ k ∧ k ≤ a + 38) → w.1 k j = s.1 k j := fun k j h1 h2 h3 => (u6 k j (by omega) (by omega) h3).trans (to k j h2)
    have w8 : w.1 a 8 = D' := (u6 a 8 (by omega) (by omega) (by omega)).trans q4
    have m3 := M.2.2.1
    have st : ((gm_26 a (true, t).2).bind fun q7 => if (-2147483648 ≤ (q7.1 1 7) ∧ (q7.1 1 7) ≤ 2147483647) then (if ¬ (q7.1 1 7) = 1 then gm_19_198 a 16 (a + 30) 0 q7 else gm_19_198 a 16 (a + 30) 1 q7) else none) = gm_19_201 a 16 w := by
      show ((gm_26 a t).bind _) = _
      rw [u1, Option.bind_some, u2, if_pos (by omega)]
      unfold gm_19_198
      rcases m3 with e | e
      · rw [e] at u3
        rw [if_pos (by rw [e]; decide), u3, Option.bind_some]
      · rw [e] at u3
        rw [if_neg (by rw [e]; decide), u3, Option.bind_some]
    rw [st]
    refine ⟨D', w, rfl, ⟨u5.trans q2, fun k j h1 h2 => (u6 k j (by omega) (by omega) (by omega)).trans (to k j (by omega))⟩, ⟨q5, w8, (wo a 9 (by omega) (by omega) (by omega)).trans e9, fun _ => ⟨fun z hz => (wo _ _ (by omega) (by omega) (by omega)).trans (li1 z hz), (wo _ _ (by omega) (by omega) (by omega)).trans li2, (wo _ _ (by omega) (by omega) (by omega)).trans li3⟩, fun h => ?_, fun h => ?_, fun _ => ⟨n1.trans l1, TR_o (fun k j h1 h2 => wo k j (by omega) (by omega) (by omega)) (g8 l8).2⟩, fun _ => u4, fun h => ?_⟩, q6, n8.trans l8⟩
    · exact ⟨n1.trans l1, TM_o (fun k j h1 h2 => wo k j (by omega) (by omega) (by omega)) (g2 (n2 ▸ h)).2⟩
    · exact TR_o (fun k j h1 h2 => wo k j (by omega) (by omega) (by omega)) (g4 (n4 ▸ h))
    · obtain ⟨x1, x2⟩ := g32 (n32 ▸ h)
      exact ⟨n2.trans x1, fun k hk => by rw [wo _ _ (by omega) (by omega) (by omega)]; exact x2 k hk⟩
end
section
/-! THE CLASS: cells sorted (that it ends, within the cells), ready -/
def tpv (f : Nat → Int) (R C g k : Nat) : Int := if co f C 0 k < 8 then LV f R C g (co f C 0 k) * (if SO f R C g (co f C 0 k) (-1) false = 0 then 1 else wt f C g k) else 0
def unv (f : Nat → Int) (R C g k : Nat) : Int := if co f C 0 k < 8 then sg (fun y => PMV f R C g (co f C 0 k) y) 9 else 1
theorem tpv_r {f : Nat → Int} {R C g k : Nat} (M : MP f R C) (h7 : f 2 = 7) (hg : g < 3) (hk : k < R * C) : (0 ≤ tpv f R C g k ∧ tpv f R C g k ≤ 809919) ∧ (0 ≤ unv f R C g k ∧ unv f R C g k ≤ 864) := by
  obtain ⟨p1, p2⟩ := PA_mv M h7 hg
  obtain ⟨v1, v2, v3⟩ := GV_r M h7 hg
  obtain ⟨l1, l2⟩ := LV_r M hg
  refine ⟨?_, ?_⟩
  · unfold tpv
    by_cases q : co f C 0 k < 8
    · rw [if_pos q]
      have a := l1 (co f C 0 k) q
      have b := sg_at l1 (co f C 0 k) q
      have w := wt_b M h7 hg hk
      split
      · omega
      · have x := Int.mul_nonneg a w.1
        have y := Int.mul_le_mul (show LV f R C g (co f C 0 k) ≤ 89991 by omega) w.2 w.1 (by omega)
        omega
    · rw [if_neg q]
      omega
  · unfold unv
    by_cases q : co f C 0 k < 8
    · rw [if_pos q]
      have nn : ∀ x, x < 8 → 0 ≤ sg (fun y => PMV f R C g x y) 9 := fun x hx => sg_nn fun y hy => (p1.2.1 x y hx hy).1
      have := sg_at (f := fun x => sg (fun y => PMV f R C g x y) 9) (n := 8) nn (co f C 0 k) q
      have := nn (co f C 0 k) q
      omega
    · rw [if_neg q]
      omega
theorem sp_27 {s : gx_S} {f : Nat → Int} {R C g a k : Nat} (m : MR s 1 f R C) (M : MP f R C) (h7 : f 2 = 7) (hg : g < 3) (ho : fx_oc a 2 = true) (e9 : s.1 a 9 = g) (hl : ∀ z, z < 8 → s.1 (a + 1) z = LV f R C g z) (hT : TM s (a + 3) f R C g) (hk : k < R * C) : gm_27 a k s = some (tpv f R C g k, s) ∧ gm_28 a k s = some (unv f R C g k, s) := by
  obtain ⟨g0, g1, g2⟩ := sp_60g m M h7 hk
  have g3 := sp_61g m M h7 hg hk
  constructor
  · unfold gm_27 tpv
    rw [if_pos ho, g0, Option.bind_some, if_pos (by have := (co_s M h7 hk).1.2; omega)]
    by_cases q : co f C 0 k < 8
    · have i5 : ((co f C 0 k : Int)).toNat = co f C 0 k := by omega
      have pv := hT.2 (co f C 0 k) q
      rw [if_pos (by omega), if_pos (by omega), if_pos q]
      show (if (-2147483648 ≤ (s.1 (a + 3 + 3) (co f C 0 k : Int).toNat) ∧ (s.1 (a + 3 + 3) (co f C 0 k : Int).toNat) ≤ 2147483647) then (if ¬ (s.1 (a + 3 + 3) (co f C 0 k : Int).toNat) = 1 then ((gm_61 1 (s.1 a 9) k s).bind fun q25 => gm_27_47 a (co f C 0 k) q25.1 q25.2) else gm_27_47 a (co f C 0 k) 1 s) else none) = _
      rw [i5, pv]
      have st : ∀ v : Int, gm_27_47 a (co f C 0 k) v s = some (LV f R C g (co f C 0 k) * v, s) := fun v => by
        unfold gm_27_47
        rw [if_pos (by omega), i5, hl _ q]
      by_cases z : SO f R C g (co f C 0 k) (-1) false = 0
      · rw [if_pos z, if_pos (by decide), if_neg (by decide), st, if_pos z]
      · rw [if_neg z, if_pos (by decide), if_pos (by decide), e9, g3, Option.bind_some, if_neg z]
        exact st _
    · rw [if_neg (by omega), if_neg q]
  · unfold gm_28 unv
    rw [if_pos ho, g0, Option.bind_some, if_pos (by have := (co_s M h7 hk).1.2; omega)]
    by_cases q : co f C 0 k < 8
    · have i5 : ((co f C 0 k : Int)).toNat = co f C 0 k := by omega
      rw [if_neg (by omega), if_pos (by omega), if_pos q]
      show some (s.1 (a + 3 + 2) (co f C 0 k : Int).toNat, s) = _
      rw [i5, (hT.1 _ q).2.1]
    · rw [if_pos (by omega), if_neg q]
/-- the order's cells alone change -/
def OR (a : Nat) (s u : gx_S) : Prop := u.2 = s.2 ∧ ∀ k j, k ≠ a + 2 → u.1 k j = s.1 k j
theorem OR_w (a : Nat) (s : gx_S) (i : Nat) (v : Int) : OR a s (gw1 s (a + 2) i v) := ⟨rfl, fun k j h => by rw [gw1_1, if_neg (fun x => h x.1)]⟩
theorem OR_tr {a : Nat} {s t u : gx_S} (x : OR a s t) (y : OR a t u) : OR a s u := ⟨y.1.trans x.1, fun k j h => (y.2 k j h).trans (x.2 k j h)⟩
/-- what the sort stands on -/
def SB (s : gx_S) (f : Nat → Int) (R C g a : Nat) : Prop := MR s 1 f R C ∧ s.1 a 9 = g ∧ (∀ z, z < 8 → s.1 (a + 1) z = LV f R C g z) ∧ TM s (a + 3) f R C g
theorem SB_o {s u : gx_S} {f : Nat → Int} {R C g a : Nat} (h71 : 71 ≤ a) (o : OR a s u) (h : SB s f R C g a) : SB u f R C g a := ⟨MR_o (fun k j h1 h2 => o.2 k j (by omega)) h.1, (o.2 _ _ (by omega)).trans h.2.1, fun z hz => (o.2 _ _ (by omega)).trans (h.2.2.1 z hz), TM_o (fun k j h1 h2 => o.2 k j (by omega)) h.2.2.2⟩
theorem sl_29_33 {f : Nat → Int} {R C g a c : Nat} (k : Nat → Int → Int → gx_S → Option gx_S) (M : MP f R C) (h7 : f 2 = 7) (hg : g < 3) (h71 : 71 ≤ a) (ho : fx_oc a 2 = true) (hc : c < R * C) : ∀ (p n : Nat) (s : gx_S), p < n → p ≤ c → SB s f R C g a → (∀ j, j ≤ c → j ≠ p → 0 ≤ s.1 (a + 2) j ∧ s.1 (a + 2) j < R * C) → ∃ u : gx_S, gm_29_33 k n a ((R * C : Nat) : Int) c (tpv f R C g c) (unv f R C g c) p s = k a ((R * C : Nat) : Int) ((c + 1 : Nat) : Int) u ∧ OR a s u ∧ ∀ j, j < c + 1 → 0 ≤ u.1 (a + 2) j ∧ u.1 (a + 2) j < R * C := by
  have hRC := RC_96 M.1.2.2.1 M.1.2.2.2
  have hRC' : ((R * C : Nat) : Int) = R * C := Int.natCast_mul R C
  intro p
  induction p with
  | zero =>
    intro n s hn hp B hj
    obtain ⟨n, rfl⟩ : ∃ n', n = n' + 1 := ⟨n - 1, by omega⟩
    have ce : ((c : Int) + 1) = ((c + 1 : Nat) : Int) := rfl
    refine ⟨gw1 s (a + 2) 0 c, ?_, OR_w a s 0 c, fun j hj' => ?_⟩
    · rw [gm_29_33, if_pos (by decide), if_pos (by decide)]
      unfold gm_29_97
      rw [if_pos (by decide), ce]
      rfl
    · rw [gw1_1]
      by_cases e : j = 0
      · rw [if_pos ⟨rfl, e⟩]
        omega
      · rw [if_neg (fun x => e x.2)]
        exact hj j (by omega) e
  | succ p ih =>
    intro n s hn hp B hj
    obtain ⟨n, rfl⟩ : ∃ n', n = n' + 1 := ⟨n - 1, by omega⟩
    have ce : ((c : Int) + 1) = ((c + 1 : Nat) : Int) := rfl
    obtain ⟨o0, o1⟩ := hj p (by omega) (by omega)
    obtain ⟨o, eo⟩ : ∃ o : Nat, s.1 (a + 2) p = o := ⟨_, (Int.toNat_of_nonneg o0).symm⟩
    have ho' : o < R * C := by
      rw [eo, ← hRC'] at o1
      omega
    obtain ⟨b1, b2, b3, b4⟩ := B
    obtain ⟨c27, c28⟩ := sp_27 b1 M h7 hg ho b2 b3 b4 ho'
    obtain ⟨r1, r2⟩ := tpv_r M h7 hg ho'
    obtain ⟨r3, r4⟩ := tpv_r M h7 hg hc
    have i1 : (((p + 1 : Nat) : Int) - 1).toNat = p := by omega
    have i2 : (((p + 1 : Nat) : Int)).toNat = p + 1 := by omega
    have i3 : (((p + 1 : Nat) : Int) + (-1)) = (p : Int) := by omega
    rw [gm_29_33, if_pos (by omega), if_neg (by omega), if_pos (by omega), i1, eo, c28, Option.bind_some]
    show ∃ u : gx_S, (if (-2147483648 ≤ unv f R C g o ∧ unv f R C g o ≤ 2147483647) then ((gm_27 a (s.1 (a + 2) p) s).bind fun q12 => if (-2147483648 ≤ q12.1 ∧ q12.1 ≤ 2147483647) then (if (-9223372036854775808 ≤ (tpv f R C g c * unv f R C g o) ∧ (tpv f R C g c * unv f R C g o) ≤ 9223372036854775807) then (if (-9223372036854775808 ≤ (q12.1 * unv f R C g c) ∧ (q12.1 * unv f R C g c) ≤ 9223372036854775807) then (if (tpv f R C g c * unv f R C g o) ≤ (q12.1 * unv f R C g c) then (gm_29_97 k a ((R * C : Nat) : Int) c ((p + 1 : Nat) : Int) q12.2) else (if 0 ≤ ((p + 1 : Nat) : Int) ∧ ((p + 1 : Nat) : Int) < 96 then (gm_29_33 k n a ((R * C : Nat) : Int) c (tpv f R C g c) (unv f R C g c) (((p + 1 : Nat) : Int) + (-1)) (gw1 q12.2 (a + 2) (((p + 1 : Nat) : Int)).toNat (q12.2.1 (a + 2) p))) else none)) else none) else none) else none) else none) = _ ∧ _
    rw [if_pos (by omega), eo, c27, Option.bind_some]
    have m1 := Int.mul_nonneg r3.1 r2.1
    have m2 := Int.mul_le_mul r3.2 r2.2 r2.1 (by omega)
    have m3 := Int.mul_nonneg r1.1 r4.1
    have m4 := Int.mul_le_mul r1.2 r4.2 r4.1 (by omega)
    show ∃ u : gx_S, (if (-2147483648 ≤ tpv f R C g o ∧ tpv f R C g o ≤ 2147483647) then (if (-9223372036854775808 ≤ (tpv f R C g c * unv f R C g o) ∧ (tpv f R C g c * unv f R C g o) ≤ 9223372036854775807) then (if (-9223372036854775808 ≤ (tpv f R C g o * unv f R C g c) ∧ (tpv f R C g o * unv f R C g c) ≤ 9223372036854775807) then (if (tpv f R C g c * unv f R C g o) ≤ (tpv f R C g o * unv f R C g c) then (gm_29_97 k a ((R * C : Nat) : Int) c ((p + 1 : Nat) : Int) s) else (if 0 ≤ ((p + 1 : Nat) : Int) ∧ ((p + 1 : Nat) : Int) < 96 then (gm_29_33 k n a ((R * C : Nat) : Int) c (tpv f R C g c) (unv f R C g c) (((p + 1 : Nat) : Int) + (-1)) (gw1 s (a + 2) (((p + 1 : Nat) : Int)).toNat (s.1 (a + 2) p))) else none)) else none) else none) else none) = _ ∧ _
    rw [if_pos (by omega), if_pos (by omega), if_pos (by omega)]
    by_cases z : (tpv f R C g c * unv f R C g o) ≤ (tpv f R C g o * unv f R C g c)
    · rw [if_pos z]
      refine ⟨gw1 s (a + 2) (p + 1) c, ?_, OR_w a s (p + 1) c, fun j hj' => ?_⟩
      · unfold gm_29_97
        rw [if_pos (by omega), i2, ce]
      · rw [gw1_1]
        by_cases e : j = p + 1
        · rw [if_pos ⟨rfl, e⟩]
          omega
        · rw [if_neg (fun x => e x.2)]
          exact hj j (by omega) e
    · rw [if_neg z, if_pos (by omega), i2, i3]
      have ow := OR_w a s (p + 1) (s.1 (a + 2) p)
      obtain ⟨u, u1, u2, u3⟩ := ih n (gw1 s (a + 2) (p + 1) (s.1 (a + 2) p)) (by omega) (by omega) (SB_o h71 ow ⟨b1, b2, b3, b4⟩) fun j h1 h2 => by
        rw [gw1_1]
        by_cases e : j = p + 1
        · rw [if_pos ⟨rfl, e⟩]
          exact ⟨o0, o1⟩
        · rw [if_neg (fun x => e x.2)]
          exact hj j h1 e
      exact ⟨u, u1, OR_tr ow u2, u3⟩
theorem sl_29_10 {f : Nat → Int} {R C g a : Nat} (M : MP f R C) (h7 : f 2 = 7) (hg : g < 3) (h71 : 71 ≤ a) (ho : fx_oc a 2 = true) : ∀ (r c n : Nat) (s : gx_S), c + r = R * C → r < n → SB s f R C g a → (∀ j, j < c → 0 ≤ s.1 (a + 2) j ∧ s.1 (a + 2) j < R * C) → ∃ u : gx_S, gm_29_10 n a ((R * C : Nat) : Int) c s = some u ∧ OR a s u ∧ ∀ j, j < R * C → 0 ≤ u.1 (a + 2) j ∧ u.1 (a + 2) j < R * C := by
  have hRC := RC_96 M.1.2.2.1 M.1.2.2.2
  intro r
  induction r with
  | zero =>
    intro c n s hk hn B hj
    obtain ⟨n, rfl⟩ : ∃ n', n = n' + 1 := ⟨n - 1, by omega⟩
    refine ⟨s, ?_, ⟨rfl, fun _ _ _ => rfl⟩, fun j h => hj j (by omega)⟩
    rw [gm_29_10, if_pos (by omega), if_pos (by omega), if_pos (by omega)]
  | succ r ih =>
    intro c n s hk hn B hj
    obtain ⟨n, rfl⟩ : ∃ n', n = n' + 1 := ⟨n - 1, by omega⟩
    have hc : c < R * C := by omega
    obtain ⟨b1, b2, b3, b4⟩ := id B
    obtain ⟨c27, c28⟩ := sp_27 b1 M h7 hg ho b2 b3 b4 hc
    obtain ⟨r3, r4⟩ := tpv_r M h7 hg hc
    rw [gm_29_10, if_pos (by omega), if_pos (by omega), if_neg (by omega), c27, Option.bind_some, if_pos (by omega)]
    show ∃ u : gx_S, ((gm_28 a c s).bind fun q8 => if (-2147483648 ≤ q8.1 ∧ q8.1 ≤ 2147483647) then (gm_29_33 (gm_29_10 n) 100000 a ((R * C : Nat) : Int) c (tpv f R C g c) q8.1 c q8.2) else none) = some u ∧ _
    rw [c28, Option.bind_some, if_pos (by omega)]
    obtain ⟨t, t1, t2, t3⟩ := sl_29_33 (gm_29_10 n) M h7 hg h71 ho hc c 100000 s (by omega) (Nat.le_refl c) B fun j h1 h2 => hj j (by omega)
    show ∃ u : gx_S, gm_29_33 (gm_29_10 n) 100000 a ((R * C : Nat) : Int) c (tpv f R C g c) (unv f R C g c) c s = some u ∧ _
    rw [t1]
    obtain ⟨u, u1, u2, u3⟩ := ih (c + 1) n t (by omega) (by omega) (SB_o h71 t2 B) t3
    exact ⟨u, u1, OR_tr t2 u2, u3⟩
theorem rd_32 {s : gx_S} {f : Nat → Int} {R C g a D : Nat} (m : MR s 1 f R C) (M : MP f R C) (h7 : f 2 = 7) (hg : g < 3) (ha : ga a) (G : GGD s f R C g a D) (l1 : D / 1 % 2 = 1) (l2 : D / 2 % 2 = 1) : ∃ (D' : Nat) (u : gx_S), gm_19_201 a 32 s = some u ∧ KG a s u ∧ GGD u f R C g a D' ∧ D' / 32 % 2 = 1 ∧ D' / 1 % 2 = 1 ∧ D' / 2 % 2 = 1 := by
  obtain ⟨a71, a215, ho, t3, t12, t21, t30, t39⟩ := id ha
  obtain ⟨hD, e8, e9, g1, g2, g4, g8, g16, g32⟩ := G
  obtain ⟨D', t, q1, q2, q3, q4, q5, q6, q7⟩ := sp_21 (w := 32) ho hD (by decide) e8
  have q1 : gm_21 a 32 s = some (decide (¬ D / 32 % 2 = 1), t) := q1
  have n1 := q7 1 (by decide) (by decide)
  have n2 := q7 2 (by decide) (by decide)
  have n4 := q7 4 (by decide) (by decide)
  have n8 := q7 8 (by decide) (by decide)
  have n16 := q7 16 (by decide) (by decide)
  have to : ∀ k j, ¬ (k = a ∧ j = 8) → t.1 k j = s.1 k j := q3
  obtain ⟨li1, li2, li3⟩ := g1 l1
  have hRC := RC_96 M.1.2.2.1 M.1.2.2.2
  unfold gm_19_201
  rw [if_pos (by decide), if_neg (by decide), q1, Option.bind_some]
  by_cases z : D / 32 % 2 = 1
  · rw [decide_eq_false (fun h => h z), if_pos (show gb (false, t).1 = 0 from (by decide : gb false = 0))]
    refine ⟨D', t, rfl, ⟨q2, fun k j h1 h2 => to k j (by omega)⟩, ⟨q5, q4, (to a 9 (by omega)).trans e9, fun _ => ⟨fun z hz => (to _ _ (by omega)).trans (li1 z hz), (to _ _ (by omega)).trans li2, (to _ _ (by omega)).trans li3⟩, fun h => ?_, fun h => ?_, fun h => ?_, fun h => ?_, fun h => ?_⟩, q6, n1.trans l1, n2.trans l2⟩
    · exact ⟨n1.trans l1, TM_o (fun k j h1 h2 => to k j (by omega)) (g2 l2).2⟩
    · exact TR_o (fun k j h1 h2 => to k j (by omega)) (g4 (n4 ▸ h))
    · exact ⟨n1.trans l1, TR_o (fun k j h1 h2 => to k j (by omega)) (g8 (n8 ▸ h)).2⟩
    · exact TR_o (fun k j h1 h2 => to k j (by omega)) (g16 (n16 ▸ h))
    · obtain ⟨x1, x2⟩ := g32 z
      exact ⟨n2.trans x1, fun k hk => by rw [to _ _ (by omega)]; exact x2 k hk⟩
  · rw [decide_eq_true z, if_neg (show ¬ gb (true, t).1 = 0 from (by decide : ¬ gb true = 0))]
    have B : SB t f R C g a := ⟨MR_o (fun k j h1 h2 => to k j (by omega)) m, (to a 9 (by omega)).trans e9, fun z hz => (to _ _ (by omega)).trans (li1 z hz), TM_o (fun k j h1 h2 => to k j (by omega)) (g2 l2).2⟩
    obtain ⟨u, u1, u2, u3⟩ := sl_29_10 M h7 hg a71 ho (R * C) 0 100000 t (by omega) (by omega) B fun j h => absurd h (by omega)
    have u1 : gm_29_10 100000 a ((R * C : Nat) : Int) 0 t = some u := u1
    have st : gm_29 a t = some u := by
      unfold gm_29
      rw [if_pos ho, sp_58 (MR_cz B.1 M), Option.bind_some, u1]
    have wo : ∀ k j, k ≠ a + 2 → ¬ (k = a ∧ j = 8) → u.1 k j = s.1 k j := fun k j h1 h2 => (u2.2 k j h1).trans (to k j h2)
    show ∃ (D' : Nat) (w : gx_S), ((gm_29 a t).bind fun q7 => gm_19_220 a q7) = some w ∧ _
    rw [st, Option.bind_some]
    refine ⟨D', u, rfl, ⟨u2.1.trans q2, fun k j h1 h2 => wo k j (by omega) (by omega)⟩, ⟨q5, (u2.2 _ _ (by omega)).trans q4, (wo a 9 (by omega) (by omega)).trans e9, fun _ => ⟨fun z hz => (wo _ _ (by omega) (by omega)).trans (li1 z hz), (wo _ _ (by omega) (by omega)).trans li2, (wo _ _ (by omega) (by omega)).trans li3⟩, fun h => ?_, fun h => ?_, fun h => ?_, fun h => ?_, fun h => ?_⟩, q6, n1.trans l1, n2.trans l2⟩
    · exact ⟨n1.trans l1, TM_o (fun k j h1 h2 => wo k j (by omega) (by omega)) (g2 l2).2⟩
    · exact TR_o (fun k j h1 h2 => wo k j (by omega) (by omega)) (g4 (n4 ▸ h))
    · exact ⟨n1.trans l1, TR_o (fun k j h1 h2 => wo k j (by omega) (by omega)) (g8 (n8 ▸ h)).2⟩
    · exact TR_o (fun k j h1 h2 => wo k j (by omega) (by omega)) (g16 (n16 ▸ h))
    · exact ⟨n2.trans l2, u3⟩
/-- ready: what is asked for is there -/
theorem sp_19 {s : gx_S} {f : Nat → Int} {R C g a D w : Nat} (hw : w = 2 ∨ w = 4 ∨ w = 8 ∨ w = 16 ∨ w = 32) (m : MR s 1 f R C) (M : MP f R C) (h7 : f 2 = 7) (hg : g < 3) (ha : ga a) (G : GGD s f R C g a D) : ∃ (D' : Nat) (u : gx_S), gm_19 a w s = some u ∧ KG a s u ∧ GGD u f R C g a D' ∧ D' / w % 2 = 1 ∧ (w = 2 ∨ w = 4 ∨ w = 32 → D' / 2 % 2 = 1 ∧ D' / 1 % 2 = 1) := by
  obtain ⟨a71, a215, ho, _⟩ := id ha
  obtain ⟨D1, s1, p1, p2, p3, p4⟩ := sp_20 m M hg ha G
  have m1 := KG_MR ha p2 m
  unfold gm_19
  rw [if_pos ho, p1, Option.bind_some]
  rcases hw with e | e | e | e | e
  · obtain ⟨D2, s2, q1, q2, q3, q4, q5⟩ := rd_2 (what := 2) m1 M h7 hg ha p3 p4
    rw [e]
    refine ⟨D2, s2, ?_, KG_tr p2 q2, q3, q5, fun _ => ⟨q5, q4⟩⟩
    show (if (-2147483648 ≤ (2 : Int) ∧ (2 : Int) ≤ 2147483647) then (if (2 : Int) = 2 then gm_19_20 a 2 s1 else _) else none) = _
    rw [if_pos (by decide), if_pos rfl, q1]
    rfl
  · obtain ⟨D2, s2, q1, q2, q3, q4, q5⟩ := rd_2 (what := 4) m1 M h7 hg ha p3 p4
    obtain ⟨D3, s3, r1, r2, r3, r4, r5, r6⟩ := rd_4 (KG_MR ha q2 m1) M h7 hg ha q3 q4 q5
    rw [e]
    refine ⟨D3, s3, ?_, KG_tr (KG_tr p2 q2) r2, r3, r4, fun _ => ⟨r6, r5⟩⟩
    show (if (-2147483648 ≤ (4 : Int) ∧ (4 : Int) ≤ 2147483647) then (if (4 : Int) = 2 then _ else (if (4 : Int) = 4 then gm_19_20 a 4 s1 else _)) else none) = _
    rw [if_pos (by decide), if_neg (by decide), if_pos rfl, q1, r1]
    rfl
  · obtain ⟨D3, s3, r1, r2, r3, r4, r5⟩ := rd_8 (what := 8) (.inl rfl) m1 M h7 hg ha p3 p4
    rw [e]
    refine ⟨D3, s3, ?_, KG_tr p2 r2, r3, r4, fun h => absurd h (by omega)⟩
    show (if (-2147483648 ≤ (8 : Int) ∧ (8 : Int) ≤ 2147483647) then (if (8 : Int) = 2 then _ else (if (8 : Int) = 4 then _ else (if ¬ (8 : Int) = 32 then gm_19_59 a 8 s1 else _))) else none) = _
    rw [if_pos (by decide), if_neg (by decide), if_neg (by decide), if_pos (by decide)]
    show gm_19_103 a 8 s1 = _
    rw [r1]
    rfl
  · obtain ⟨D3, s3, r1, r2, r3, r4, r5⟩ := rd_8 (what := 16) (.inr rfl) m1 M h7 hg ha p3 p4
    obtain ⟨D4, s4, t1, t2, t3, t4, t5⟩ := rd_16 (KG_MR ha r2 m1) M h7 hg ha r3 r5 r4
    rw [e]
    refine ⟨D4, s4, ?_, KG_tr (KG_tr p2 r2) t2, t3, t4, fun h => absurd h (by omega)⟩
    show (if (-2147483648 ≤ (16 : Int) ∧ (16 : Int) ≤ 2147483647) then (if (16 : Int) = 2 then _ else (if (16 : Int) = 4 then _ else (if ¬ (16 : Int) = 32 then gm_19_59 a 16 s1 else _))) else none) = _
    rw [if_pos (by decide), if_neg (by decide), if_neg (by decide), if_pos (by decide)]
    show gm_19_103 a 16 s1 = _
    rw [r1, t1]
    rfl
  · obtain ⟨D2, s2, q1, q2, q3, q4, q5⟩ := rd_2 (what := 32) m1 M h7 hg ha p3 p4
    obtain ⟨D3, s3, r1, r2, r3, r4, r5, r6⟩ := rd_32 (KG_MR ha q2 m1) M h7 hg ha q3 q4 q5
    rw [e]
    refine ⟨D3, s3, ?_, KG_tr (KG_tr p2 q2) r2, r3, r4, fun _ => ⟨r6, r5⟩⟩
    show (if (-2147483648 ≤ (32 : Int) ∧ (32 : Int) ≤ 2147483647) then (if (32 : Int) = 2 then _ else (if (32 : Int) = 4 then _ else (if ¬ (32 : Int) = 32 then _ else gm_19_20 a 32 s1))) else none) = _
    rw [if_pos (by decide), if_neg (by decide), if_neg (by decide), if_neg (by decide), q1]
    show gm_19_201 a 32 s2 = _
    exact r1
end
section
/-! THE CLASS: states copied, history, tables forgotten -/
theorem gcp_1 (s : gx_S) (a sp b dp n k j : Nat) : (gcp s a sp b dp n).1 k j = if k = b ∧ dp ≤ j ∧ j < dp + n then s.1 a (sp + (j - dp)) else s.1 k j := rfl
/-- x0 becomes a copy of x1; the rest stays -/
theorem sp_54 {s : gx_S} {x0 x1 : Nat} (h0 : fx_oc x0 6 = true) (h1 : fx_oc x1 6 = true) (hd : x0 + 5 ≤ x1 ∨ x1 + 5 ≤ x0) : ∃ u : gx_S, gm_54 x0 x1 s = some u ∧ u.2 = s.2 ∧ (∀ k j, ¬ (x0 ≤ k ∧ k < x0 + 5) → u.1 k j = s.1 k j) ∧ (∀ j, 4 ≤ j → j ≤ 8 → u.1 x0 j = s.1 x1 j) ∧ (∀ j, j < 288 → u.1 (x0 + 1) j = s.1 (x1 + 1) j) ∧ (∀ j, j < 27 → u.1 (x0 + 2) j = s.1 (x1 + 2) j) ∧ (∀ j, j < 12 → u.1 (x0 + 3) j = s.1 (x1 + 3) j) ∧ ∀ j, j < 8 → u.1 (x0 + 4) j = s.1 (x1 + 4) j := by
  obtain ⟨b, hb⟩ : ∃ b, b = gcp (gcp (gcp (gcp s (x1 + 1) 0 (x0 + 1) 0 288) (x1 + 2) 0 (x0 + 2) 0 27) (x1 + 3) 0 (x0 + 3) 0 12) (x1 + 4) 0 (x0 + 4) 0 8 := ⟨_, rfl⟩
  obtain ⟨c, hc⟩ : ∃ c, c = gw1 b x0 4 (b.1 x1 4) := ⟨_, rfl⟩
  obtain ⟨d, hd'⟩ : ∃ d, d = gw1 c x0 5 (c.1 x1 5) := ⟨_, rfl⟩
  obtain ⟨e, he⟩ : ∃ e, e = gw1 d x0 6 (d.1 x1 6) := ⟨_, rfl⟩
  obtain ⟨g, hg⟩ : ∃ g, g = gw1 e x0 7 (e.1 x1 7) := ⟨_, rfl⟩
  obtain ⟨h, hh⟩ : ∃ h, h = gw1 g x0 8 (g.1 x1 8) := ⟨_, rfl⟩
  have st : gm_54 x0 x1 s = some h := by
    unfold gm_54
    rw [if_pos ⟨h0, h1⟩, ← hb, ← hc, ← hd', ← he, ← hg, ← hh]
  have h2 : h.2 = s.2 := by rw [hh, hg, he, hd', hc, hb]; rfl
  have bo : ∀ k j, ¬ (x0 < k ∧ k < x0 + 5) → b.1 k j = s.1 k j := fun k j q => by
    rw [hb, gcp_1, if_neg (by omega), gcp_1, if_neg (by omega), gcp_1, if_neg (by omega), gcp_1, if_neg (by omega)]
  have ho : ∀ k j, k ≠ x0 → h.1 k j = b.1 k j := fun k j q => by
    rw [hh, gw1_1, if_neg (fun x => q x.1), hg, gw1_1, if_neg (fun x => q x.1), he, gw1_1, if_neg (fun x => q x.1), hd', gw1_1, if_neg (fun x => q x.1), hc, gw1_1, if_neg (fun x => q x.1)]
  have x1c : ∀ j, c.1 x1 j = s.1 x1 j ∧ d.1 x1 j = s.1 x1 j ∧ e.1 x1 j = s.1 x1 j ∧ g.1 x1 j = s.1 x1 j ∧ b.1 x1 j = s.1 x1 j := fun j => by
    have b0 := bo x1 j (by omega)
    have c0 : c.1 x1 j = s.1 x1 j := by rw [hc, gw1_1, if_neg (by omega), b0]
    have d0 : d.1 x1 j = s.1 x1 j := by rw [hd', gw1_1, if_neg (by omega), c0]
    have e0 : e.1 x1 j = s.1 x1 j := by rw [he, gw1_1, if_neg (by omega), d0]
    have g0 : g.1 x1 j = s.1 x1 j := by rw [hg, gw1_1, if_neg (by omega), e0]
    exact ⟨c0, d0, e0, g0, b0⟩
  refine ⟨h, st, h2, fun k j q => by rw [ho k j (by omega), bo k j (by omega)], fun j q1 q2 => ?_, fun j q => ?_, fun j q => ?_, fun j q => ?_, fun j q => ?_⟩
  · rcases (show j = 4 ∨ j = 5 ∨ j = 6 ∨ j = 7 ∨ j = 8 by omega) with z | z | z | z | z
    · rw [z, hh, gw1_1, if_neg (by omega), hg, gw1_1, if_neg (by omega), he, gw1_1, if_neg (by omega), hd', gw1_1, if_neg (by omega), hc, gw1_1, if_pos ⟨rfl, rfl⟩, (x1c 4).2.2.2.2]
    · rw [z, hh, gw1_1, if_neg (by omega), hg, gw1_1, if_neg (by omega), he, gw1_1, if_neg (by omega), hd', gw1_1, if_pos ⟨rfl, rfl⟩, (x1c 5).1]
    · rw [z, hh, gw1_1, if_neg (by omega), hg, gw1_1, if_neg (by omega), he, gw1_1, if_pos ⟨rfl, rfl⟩, (x1c 6).2.1]
    · rw [z, hh, gw1_1, if_neg (by omega), hg, gw1_1, if_pos ⟨rfl, rfl⟩, (x1c 7).2.2.1]
    · rw [z, hh, gw1_1, if_pos ⟨rfl, rfl⟩, (x1c 8).2.2.2.1]
  · rw [ho _ _ (by omega), hb, gcp_1, if_neg (by omega), gcp_1, if_neg (by omega), gcp_1, if_neg (by omega), gcp_1, if_pos (by omega)]
    rw [show 0 + (j - 0) = j by omega]
  · rw [ho _ _ (by omega), hb, gcp_1, if_neg (by omega), gcp_1, if_neg (by omega), gcp_1, if_pos (by omega), gcp_1, if_neg (by omega)]
    rw [show 0 + (j - 0) = j by omega]
  · rw [ho _ _ (by omega), hb, gcp_1, if_neg (by omega), gcp_1, if_pos (by omega), gcp_1, if_neg (by omega), gcp_1, if_neg (by omega)]
    rw [show 0 + (j - 0) = j by omega]
  · rw [ho _ _ (by omega), hb, gcp_1, if_pos (by omega), gcp_1, if_neg (by omega), gcp_1, if_neg (by omega), gcp_1, if_neg (by omega)]
    rw [show 0 + (j - 0) = j by omega]
theorem kC {R C k l : Nat} (hR : R ≤ 8) (hC : C ≤ 12) (hk : k < R * C) (hl : l < 3) : 52 + 96 * l + 12 * (k / C) + k % C < 340 ∧ 96 * l + k < 288 := by
  have h0 : 0 < C := Nat.pos_of_ne_zero fun h => by rw [h, Nat.mul_zero] at hk; omega
  have a : k / C < R := (Nat.div_lt_iff_lt_mul h0).mpr hk
  have b := Nat.mod_lt k h0
  have := RC_96 hR hC
  omega
theorem MP_c {f f' : Nat → Int} {R C : Nat} (h : ∀ i, i < 340 → f' i = f i) (M : MP f R C) : MP f' R C := by
  obtain ⟨m1, m2, m3, m4, m5, m6, m7, m8, m10⟩ := M
  refine ⟨by rw [h 0 (by omega), h 1 (by omega)]; exact m1, by rw [h 2 (by omega)]; exact m2, by rw [h 3 (by omega)]; exact m3, by rw [h 4 (by omega)]; exact m4, fun g hg => ⟨fun z hz => by rw [h _ (by omega)]; exact (m5 g hg).1 z hz, ?_⟩, fun i hi => by rw [h _ (by omega)]; exact m6 i hi, fun z hz => by rw [h _ (by omega)]; exact m7 z hz, fun l hl b k hk => ?_, by rw [h 2 (by omega)]; exact m10⟩
  · rw [sg_eq (g := fun z => f (5 + 9 * g + z)) fun z hz => h _ (by omega)]
    exact (m5 g hg).2
  · rw [h _ (kC m1.2.2.1 m1.2.2.2 hk hl).1]
    rw [h 2 (by omega)] at b
    exact m8 l hl b k hk
theorem MR_c {s : gx_S} {a : Nat} {f f' : Nat → Int} {R C : Nat} (hR : R ≤ 8) (hC : C ≤ 12) (h : ∀ i, i < 340 → f' i = f i) (m : MR s a f R C) : MR s a f' R C := by
  obtain ⟨m1, m2, m3, m4, m5, m6, m7, m8, m9⟩ := m
  refine ⟨by rw [h 0 (by omega)]; exact m1, by rw [h 1 (by omega)]; exact m2, by rw [h 2 (by omega)]; exact m3, by rw [h 3 (by omega)]; exact m4, by rw [h 4 (by omega)]; exact m5, fun i hi => by rw [h _ (by omega)]; exact m6 i hi, fun i hi => by rw [h _ (by omega)]; exact m7 i hi, fun i hi => by rw [h _ (by omega)]; exact m8 i hi, fun l hl b k hk => ?_⟩
  rw [h _ (kC hR hC hk hl).1]
  rw [h 2 (by omega)] at b
  exact m9 l hl b k hk
theorem MR_54 {s u : gx_S} {x0 x1 : Nat} {f : Nat → Int} {R C : Nat} (hR : R ≤ 8) (hC : C ≤ 12) (c1 : ∀ j, 4 ≤ j → j ≤ 8 → u.1 x0 j = s.1 x1 j) (c2 : ∀ j, j < 288 → u.1 (x0 + 1) j = s.1 (x1 + 1) j) (c3 : ∀ j, j < 27 → u.1 (x0 + 2) j = s.1 (x1 + 2) j) (c4 : ∀ j, j < 12 → u.1 (x0 + 3) j = s.1 (x1 + 3) j) (c5 : ∀ j, j < 8 → u.1 (x0 + 4) j = s.1 (x1 + 4) j) (m : MR s x1 f R C) : MR u x0 f R C := by
  obtain ⟨m1, m2, m3, m4, m5, m6, m7, m8, m9⟩ := m
  exact ⟨by rw [c1 4 (by omega) (by omega)]; exact m1, by rw [c1 5 (by omega) (by omega)]; exact m2, by rw [c1 6 (by omega) (by omega)]; exact m3, by rw [c1 7 (by omega) (by omega)]; exact m4, by rw [c1 8 (by omega) (by omega)]; exact m5, fun i hi => by rw [c3 i hi]; exact m6 i hi, fun i hi => by rw [c4 i hi]; exact m7 i hi, fun i hi => by rw [c5 i hi]; exact m8 i hi, fun l hl b k hk => by rw [c2 _ (kC hR hC hk hl).2]; exact m9 l hl b k hk⟩
/-- what is kept of the past: pf k is the k-th of n maps -/
def HC (s : gx_S) (n : Nat) (pf : Nat → Nat → Int) : Prop := n ≤ 8 ∧ ∃ p : Nat, p < 8 ∧ s.1 16 1 = p ∧ s.1 16 2 = n ∧ ∀ k, k < n → ∃ R C : Nat, MP (pf k) R C ∧ MR s (18 + 5 * ((p + 8 - n + k) % 8)) (pf k) R C
/-- the past with one map more -/
def pn (n : Nat) (pf : Nat → Nat → Int) (f : Nat → Int) (k : Nat) : Nat → Int := if n < 8 then (if k = n then f else pf k) else (if k = 7 then f else pf (k + 1))
def nn (n : Nat) : Nat := if n < 8 then n + 1 else 8
theorem rf17 : ∀ p : Nat, p < 8 → fx_rf 17 p = 18 + 5 * p ∧ fx_oc (18 + 5 * p) 6 = true := by decide +kernel
theorem sp_31 {s : gx_S} {f : Nat → Int} {R C n : Nat} {pf : Nat → Nat → Int} (m : MR s 1 f R C) (M : MP f R C) (H : HC s n pf) : ∃ u : gx_S, gm_31 1 s = some u ∧ u.2 = s.2 ∧ (∀ k j, ¬ (16 ≤ k ∧ k ≤ 57) → u.1 k j = s.1 k j) ∧ HC u (nn n) (pn n pf f) := by
  obtain ⟨hn, p, hp, e1, e2, hk⟩ := H
  obtain ⟨r1, r2⟩ := rf17 p hp
  obtain ⟨b, b1, b2, b3, b4, b5, b6, b7, b8⟩ := sp_54 (s := s) (x0 := 18 + 5 * p) (x1 := 1) r2 (by decide +kernel) (by omega)
  have mb : MR b (18 + 5 * p) f R C := MR_54 M.1.2.2.1 M.1.2.2.2 b4 b5 b6 b7 b8 m
  have be1 : b.1 16 1 = p := (b3 16 1 (by omega)).trans e1
  have be2 : b.1 16 2 = n := (b3 16 2 (by omega)).trans e2
  obtain ⟨c, hc⟩ : ∃ c, c = gw1 b 16 1 (((p : Int) + 1) % 8) := ⟨_, rfl⟩
  have c2 : c.1 16 2 = n := by rw [hc, gw1_1, if_neg (by omega), be2]
  obtain ⟨d, hd⟩ : ∃ d, d = gw1 c 16 2 (if (n : Int) + 1 < 8 then (n : Int) + 1 else 8) := ⟨_, rfl⟩
  have st : gm_31 1 s = some d := by
    unfold gm_31
    rw [if_pos (by decide +kernel), if_pos (by omega), e1, show ((p : Int)).toNat = p by omega, r1, Option.bind_some, b1, Option.bind_some, be1, if_pos (by omega), ← hc, c2, if_pos (by omega), ← hd]
  have d1 : d.1 16 1 = (((p + 1) % 8 : Nat) : Int) := by rw [hd, gw1_1, if_neg (by omega), hc, gw1_1, if_pos ⟨rfl, rfl⟩]; omega
  have d2 : d.1 16 2 = ((nn n : Nat) : Int) := by
    rw [hd, gw1_1, if_pos ⟨rfl, rfl⟩]
    unfold nn
    by_cases z : n < 8
    · rw [if_pos z]
      split <;> omega
    · rw [if_neg z, if_neg (by omega)]
      rfl
  have dk : ∀ k j, k ≠ 16 → d.1 k j = b.1 k j := fun k j q => by rw [hd, gw1_1, if_neg (fun x => q x.1), hc, gw1_1, if_neg (fun x => q x.1)]
  refine ⟨d, st, by rw [hd, hc]; exact b2, fun k j q => by rw [dk k j (by omega), b3 k j (by omega)], ?_, (p + 1) % 8, by omega, d1, d2, fun k hk' => ?_⟩
  · unfold nn
    split <;> omega
  · have keep : ∀ q : Nat, q < 8 → q ≠ p → ∀ (g : Nat → Int) (R C : Nat), MR s (18 + 5 * q) g R C → MR d (18 + 5 * q) g R C := fun q hq hqp g R C mm => MR_o (fun k j h1 h2 => by rw [dk k j (by omega), b3 k j (by omega)]) mm
    have new : MR d (18 + 5 * p) f R C := MR_o (fun k j h1 h2 => dk k j (by omega)) mb
    unfold nn at hk' ⊢
    unfold pn
    by_cases z : n < 8
    · rw [if_pos z] at hk' ⊢
      rw [if_pos z]
      by_cases q : k = n
      · rw [if_pos q, show ((p + 1) % 8 + 8 - (n + 1) + k) % 8 = p by omega]
        exact ⟨R, C, M, new⟩
      · rw [if_neg q, show ((p + 1) % 8 + 8 - (n + 1) + k) % 8 = (p + 8 - n + k) % 8 by omega]
        obtain ⟨R', C', x1, x2⟩ := hk k (by omega)
        exact ⟨R', C', x1, keep _ (by omega) (by omega) _ _ _ x2⟩
    · rw [if_neg z] at hk' ⊢
      rw [if_neg z]
      by_cases q : k = 7
      · rw [if_pos q, show ((p + 1) % 8 + 8 - 8 + k) % 8 = p by omega]
        exact ⟨R, C, M, new⟩
      · rw [if_neg q, show ((p + 1) % 8 + 8 - 8 + k) % 8 = (p + 8 - n + (k + 1)) % 8 by omega]
        obtain ⟨R', C', x1, x2⟩ := hk (k + 1) (by omega)
        exact ⟨R', C', x1, keep _ (by omega) (by omega) _ _ _ x2⟩
theorem sp_32 {s : gx_S} {n : Nat} {pf : Nat → Nat → Int} (hn0 : 0 < n) (H : HC s n pf) : ∃ (u : gx_S) (R C : Nat), gm_32 1 s = some u ∧ u.2 = s.2 ∧ (∀ k j, ¬ (1 ≤ k ∧ k ≤ 5) → k ≠ 16 → u.1 k j = s.1 k j) ∧ HC u (n - 1) pf ∧ MP (pf (n - 1)) R C ∧ MR u 1 (pf (n - 1)) R C := by
  obtain ⟨hn, p, hp, e1, e2, hk⟩ := H
  obtain ⟨r1, r2⟩ := rf17 ((p + 7) % 8) (by omega)
  obtain ⟨R, C, x1, x2⟩ := hk (n - 1) (by omega)
  rw [show (p + 8 - n + (n - 1)) % 8 = (p + 7) % 8 by omega] at x2
  obtain ⟨a, ha⟩ : ∃ a, a = gw1 s 16 1 (((p + 7) % 8 : Nat) : Int) := ⟨_, rfl⟩
  have ak : ∀ k j, k ≠ 16 → a.1 k j = s.1 k j := fun k j q => by rw [ha, gw1_1, if_neg (fun x => q x.1)]
  have a1 : a.1 16 1 = (((p + 7) % 8 : Nat) : Int) := by rw [ha, gw1_1, if_pos ⟨rfl, rfl⟩]
  have a2 : a.1 16 2 = n := by rw [ha, gw1_1, if_neg (by omega), e2]
  obtain ⟨b, b1, b2, b3, b4, b5, b6, b7, b8⟩ := sp_54 (s := a) (x0 := 1) (x1 := 18 + 5 * ((p + 7) % 8)) (by decide +kernel) r2 (by omega)
  have ma : MR a (18 + 5 * ((p + 7) % 8)) (pf (n - 1)) R C := MR_o (fun k j h1 h2 => ak k j (by omega)) x2
  have mb : MR b 1 (pf (n - 1)) R C := MR_54 x1.1.2.2.1 x1.1.2.2.2 b4 b5 b6 b7 b8 ma
  have e3 : (((p : Int) + 8) - 1) % 8 = (((p + 7) % 8 : Nat) : Int) := by omega
  have st : gm_32 1 s = some (gw1 b 16 2 ((n : Int) - 1)) := by
    unfold gm_32
    rw [if_pos (by decide +kernel), e1, if_pos (by omega), e3, ← ha, a1, if_pos (by omega), show ((((p + 7) % 8 : Nat) : Int)).toNat = (p + 7) % 8 by omega, r1, Option.bind_some, b1, Option.bind_some, b3 16 2 (by omega), a2]
  have ck : ∀ k j, ¬ (k = 16 ∧ j = 2) → (gw1 b 16 2 ((n : Int) - 1)).1 k j = b.1 k j := fun k j q => by rw [gw1_1, if_neg q]
  refine ⟨_, R, C, st, by rw [gw1_2, b2, ha]; rfl, fun k j q1 q2 => by rw [ck k j (by omega), b3 k j (by omega), ak k j q2], ⟨by omega, (p + 7) % 8, by omega, ?_, ?_, fun k hk' => ?_⟩, x1, MR_o (fun k j h1 h2 => ck k j (by omega)) mb⟩
  · rw [ck 16 1 (by omega), b3 16 1 (by omega), a1]
  · rw [gw1_1, if_pos ⟨rfl, rfl⟩]
    omega
  · obtain ⟨R', C', y1, y2⟩ := hk k (by omega)
    rw [show ((p + 7) % 8 + 8 - (n - 1) + k) % 8 = (p + 8 - n + k) % 8 by omega]
    exact ⟨R', C', y1, MR_o (fun k j h1 h2 => by rw [ck k j (by omega), b3 k j (by omega), ak k j (by omega)]) y2⟩
theorem rf70 : ∀ g : Nat, g < 3 → fx_rf 70 g = 71 + 48 * g := by decide +kernel
/-- nothing is made -/
def G0 (s : gx_S) : Prop := ∀ g, g < 3 → s.1 (71 + 48 * g) 8 = 0 ∧ s.1 (71 + 48 * g) 9 = g
theorem sp_120 (s : gx_S) : ∃ u : gx_S, gm_120 s = some u ∧ u.2 = s.2 ∧ (∀ k j, ¬ ((k = 71 ∨ k = 119 ∨ k = 167) ∧ j = 8) → u.1 k j = s.1 k j) ∧ u.1 71 8 = 0 ∧ u.1 119 8 = 0 ∧ u.1 167 8 = 0 := by
  refine ⟨gw1 (gw1 (gw1 s 71 8 0) 119 8 0) 167 8 0, ?_, rfl, fun k j q => by rw [gw1_1, if_neg (by omega), gw1_1, if_neg (by omega), gw1_1, if_neg (by omega)], ?_, ?_, ?_⟩
  · have r0 := rf70 0 (by omega)
    have r1 := rf70 1 (by omega)
    have r2 := rf70 2 (by omega)
    unfold gm_120
    rw [gm_120_2, if_pos (by decide), if_neg (by decide), if_pos (by decide)]
    show ((some (fx_rf 70 0)).bind _) = _
    rw [r0, Option.bind_some, gm_120_2, if_pos (by decide), if_neg (by decide), if_pos (by decide)]
    show ((some (fx_rf 70 1)).bind _) = _
    rw [r1, Option.bind_some, gm_120_2, if_pos (by decide), if_neg (by decide), if_pos (by decide)]
    show ((some (fx_rf 70 2)).bind _) = _
    rw [r2, Option.bind_some, gm_120_2, if_pos (by decide), if_pos (by decide)]
  · rw [gw1_1, if_neg (by omega), gw1_1, if_neg (by omega), gw1_1, if_pos ⟨rfl, rfl⟩]
  · rw [gw1_1, if_neg (by omega), gw1_1, if_pos ⟨rfl, rfl⟩]
  · rw [gw1_1, if_pos ⟨rfl, rfl⟩]
end
section
/-! BOTH SIDES beside one map, one past, one tape -/
def HRf (s : gx_S) (n : Nat) (pf : Nat → Nat → Int) : Prop := s.1 215 2 = n ∧ ∀ k, k < n → ∀ i, i < 340 → s.1 217 (340 * k + i) = pf k i
theorem sl_132_54 {n : Nat} (hn : n < 8) : ∀ (m j : Nat) (s : gx_S), 340 < m + j → j ≤ 340 → s.1 215 2 = n → ∃ u : gx_S, gm_132_54 m j s = some u ∧ u.2 = s.2 ∧ (∀ k i, k ≠ 217 → ¬ (k = 215 ∧ i = 2) → u.1 k i = s.1 k i) ∧ u.1 215 2 = ((n + 1 : Nat) : Int) ∧ ∀ i, u.1 217 i = if 340 * n + j ≤ i ∧ i < 340 * n + 340 then s.1 216 (i - 340 * n) else s.1 217 i := by
  intro m
  induction m with
  | zero => intro j s h; omega
  | succ m ih =>
    intro j s h hj e
    rw [gm_132_54, if_pos (by omega)]
    by_cases q : j = 340
    · rw [if_pos (by omega), e]
      refine ⟨gw1 s 215 2 ((n : Int) + 1), rfl, rfl, fun k i h1 h2 => by rw [gw1_1, if_neg h2], by rw [gw1_1, if_pos ⟨rfl, rfl⟩]; rfl, fun i => ?_⟩
      rw [if_neg (by omega), gw1_1, if_neg (by omega)]
    · have ce : ((j : Int) + 1) = ((j + 1 : Nat) : Int) := rfl
      have i5 : ((j : Int)).toNat = j := by omega
      have i6 : ((340 * (n : Int)) + (j : Int)).toNat = 340 * n + j := by omega
      rw [if_neg (by omega), if_pos (by omega), e, if_pos (by omega), i5, i6, ce]
      obtain ⟨u, u1, u2, u3, u4, u5⟩ := ih (j + 1) (gw1 s 217 (340 * n + j) (s.1 216 j)) (by omega) (by omega) (by rw [gw1_1, if_neg (by omega)]; exact e)
      refine ⟨u, u1, u2, fun k i h1 h2 => by rw [u3 k i h1 h2, gw1_1, if_neg (fun x => h1 x.1)], u4, fun i => ?_⟩
      rw [u5]
      by_cases z : i = 340 * n + j
      · rw [if_neg (show ¬ (340 * n + (j + 1) ≤ i ∧ i < 340 * n + 340) by omega), gw1_1, if_pos ⟨rfl, z⟩, if_pos (show 340 * n + j ≤ i ∧ i < 340 * n + 340 by omega), z, show 340 * n + j - 340 * n = j by omega]
      · by_cases z2 : 340 * n + (j + 1) ≤ i ∧ i < 340 * n + 340
        · rw [if_pos z2, if_pos (show 340 * n + j ≤ i ∧ i < 340 * n + 340 by omega), gw1_1, if_neg (by omega)]
        · rw [if_neg z2, if_neg (show ¬ (340 * n + j ≤ i ∧ i < 340 * n + 340) by omega), gw1_1, if_neg (fun x => z x.2)]
theorem sl_132_13 : ∀ (m j : Nat) (s : gx_S), 2720 < m + j → 340 ≤ j → j ≤ 2720 → ∃ u : gx_S, gm_132_13 m j s = gm_132_52 (gw1 u 215 2 (u.1 215 2 - 1)) ∧ u.2 = s.2 ∧ (∀ k i, k ≠ 217 → u.1 k i = s.1 k i) ∧ ∀ i, u.1 217 i = if j ≤ i + 340 ∧ i < 2380 then s.1 217 (i + 340) else s.1 217 i := by
  intro m
  induction m with
  | zero => intro j s h; omega
  | succ m ih =>
    intro j s h h3 hj
    rw [gm_132_13, if_pos (by omega)]
    by_cases q : j = 2720
    · rw [if_pos (by omega)]
      exact ⟨s, rfl, rfl, fun _ _ _ => rfl, fun i => by rw [if_neg (by omega)]⟩
    · have ce : ((j : Int) + 1) = ((j + 1 : Nat) : Int) := rfl
      have i5 : ((j : Int)).toNat = j := by omega
      have i6 : ((j : Int) - 340).toNat = j - 340 := by omega
      rw [if_neg (by omega), if_pos (by omega), if_pos (by omega), i5, i6, ce]
      obtain ⟨u, u1, u2, u3, u4⟩ := ih (j + 1) (gw1 s 217 (j - 340) (s.1 217 j)) (by omega) (by omega) (by omega)
      refine ⟨u, u1, u2, fun k i h1 => by rw [u3 k i h1, gw1_1, if_neg (fun x => h1 x.1)], fun i => ?_⟩
      rw [u4]
      by_cases z : i + 340 = j
      · rw [if_neg (show ¬ (j + 1 ≤ i + 340 ∧ i < 2380) by omega), gw1_1, if_pos ⟨rfl, by omega⟩, if_pos (show j ≤ i + 340 ∧ i < 2380 by omega), z]
      · by_cases z2 : j + 1 ≤ i + 340 ∧ i < 2380
        · rw [if_pos z2, if_pos (show j ≤ i + 340 ∧ i < 2380 by omega), gw1_1, if_neg (by omega)]
        · rw [if_neg z2, if_neg (show ¬ (j ≤ i + 340 ∧ i < 2380) by omega), gw1_1, if_neg (by omega)]
theorem sp_132 {s : gx_S} {n : Nat} {pf : Nat → Nat → Int} (hn : n ≤ 8) (H : HRf s n pf) : ∃ u : gx_S, gm_132 s = some u ∧ u.2 = s.2 ∧ (∀ k i, k ≠ 217 → ¬ (k = 215 ∧ i = 2) → u.1 k i = s.1 k i) ∧ HRf u (nn n) (pn n pf (s.1 216)) := by
  obtain ⟨e, hk⟩ := H
  unfold gm_132
  rw [e, if_pos (by omega)]
  by_cases z : n < 8
  · rw [if_pos (by omega)]
    obtain ⟨u, u1, u2, u3, u4, u5⟩ := sl_132_54 z 100000 0 s (by omega) (by omega) e
    have u1 : gm_132_54 100000 0 s = some u := u1
    unfold gm_132_52 nn
    rw [if_pos z]
    refine ⟨u, u1, u2, u3, u4, fun k hk' i hi => ?_⟩
    unfold pn
    rw [if_pos z, u5]
    by_cases q : k = n
    · rw [if_pos (by omega), if_pos q, q, show 340 * n + i - 340 * n = i by omega]
    · rw [if_neg (by omega), if_neg q]
      exact hk k (by omega) i hi
  · rw [if_neg (by omega)]
    have e8 : n = 8 := by omega
    obtain ⟨a, a1, a2, a3, a4⟩ := sl_132_13 100000 340 s (by omega) (by omega) (by omega)
    have a1 : gm_132_13 100000 340 s = _ := a1
    have ae : a.1 215 2 = 8 := by rw [a3 215 2 (by decide), e, e8]; rfl
    obtain ⟨b, hb⟩ : ∃ b, b = gw1 a 215 2 (a.1 215 2 - 1) := ⟨_, rfl⟩
    have b7 : b.1 215 2 = ((7 : Nat) : Int) := by rw [hb, gw1_1, if_pos ⟨rfl, rfl⟩, ae]; rfl
    have bk : ∀ k i, ¬ (k = 215 ∧ i = 2) → b.1 k i = a.1 k i := fun k i q => by rw [hb, gw1_1, if_neg q]
    obtain ⟨u, u1, u2, u3, u4, u5⟩ := sl_132_54 (n := 7) (by omega) 100000 0 b (by omega) (by omega) b7
    have u1 : gm_132_54 100000 0 b = some u := u1
    rw [a1, ← hb]
    unfold gm_132_52 nn
    rw [if_neg z]
    refine ⟨u, u1, by rw [u2, hb]; exact a2, fun k i h1 h2 => by rw [u3 k i h1 h2, bk k i h2, a3 k i h1], u4, fun k hk' i hi => ?_⟩
    unfold pn
    rw [if_neg z, u5]
    by_cases q : k = 7
    · rw [if_pos (by omega), if_pos q, bk 216 _ (by omega), a3 216 _ (by decide), show 340 * k + i - 340 * 7 = i by omega]
    · rw [if_neg (by omega), if_neg q, bk 217 _ (by omega), a4, if_pos (by omega)]
      rw [← hk (k + 1) (by omega) i hi, show 340 * k + i + 340 = 340 * (k + 1) + i by omega]
theorem sl_133_21 {n : Nat} (hn : n < 8) : ∀ (m j : Nat) (s : gx_S), 340 < m + j → j ≤ 340 → s.1 215 2 = n → ∃ u : gx_S, gm_133_21 m j s = some ((n : Int), u) ∧ u.2 = s.2 ∧ (∀ k i, k ≠ 216 → u.1 k i = s.1 k i) ∧ ∀ i, u.1 216 i = if j ≤ i ∧ i < 340 then s.1 217 (340 * n + i) else s.1 216 i := by
  intro m
  induction m with
  | zero => intro j s h; omega
  | succ m ih =>
    intro j s h hj e
    rw [gm_133_21, if_pos (by omega)]
    by_cases q : j = 340
    · rw [if_pos (by omega), e]
      exact ⟨s, rfl, rfl, fun _ _ _ => rfl, fun i => by rw [if_neg (by omega)]⟩
    · have ce : ((j : Int) + 1) = ((j + 1 : Nat) : Int) := rfl
      have i5 : ((j : Int)).toNat = j := by omega
      have i6 : ((340 * (n : Int)) + (j : Int)).toNat = 340 * n + j := by omega
      rw [if_neg (by omega), e, if_pos (by omega), if_pos (by omega), i5, i6, ce]
      obtain ⟨u, u1, u2, u3, u4⟩ := ih (j + 1) (gw1 s 216 j (s.1 217 (340 * n + j))) (by omega) (by omega) (by rw [gw1_1, if_neg (by omega)]; exact e)
      refine ⟨u, u1, u2, fun k i h1 => by rw [u3 k i h1, gw1_1, if_neg (fun x => h1 x.1)], fun i => ?_⟩
      rw [u4]
      by_cases z : i = j
      · rw [if_neg (show ¬ (j + 1 ≤ i ∧ i < 340) by omega), gw1_1, if_pos ⟨rfl, z⟩, if_pos (show j ≤ i ∧ i < 340 by omega), z]
      · by_cases z2 : j + 1 ≤ i ∧ i < 340
        · rw [if_pos z2, if_pos (show j ≤ i ∧ i < 340 by omega), gw1_1, if_neg (by omega)]
        · rw [if_neg z2, if_neg (show ¬ (j ≤ i ∧ i < 340) by omega), gw1_1, if_neg (fun x => z x.2)]
theorem sp_133 {s : gx_S} {n : Nat} {pf : Nat → Nat → Int} (hn : n ≤ 8) (h0 : 0 < n) (H : HRf s n pf) : ∃ u : gx_S, gm_133 s = some (((n - 1 : Nat) : Int), u) ∧ u.2 = s.2 ∧ (∀ k i, k ≠ 216 → ¬ (k = 215 ∧ i = 2) → u.1 k i = s.1 k i) ∧ (∀ i, i < 340 → u.1 216 i = pf (n - 1) i) ∧ HRf u (n - 1) pf := by
  obtain ⟨e, hk⟩ := H
  obtain ⟨a, ha⟩ : ∃ a, a = gw1 s 215 2 (((n - 1 : Nat) : Int)) := ⟨_, rfl⟩
  have a2 : a.1 215 2 = ((n - 1 : Nat) : Int) := by rw [ha, gw1_1, if_pos ⟨rfl, rfl⟩]
  have ak : ∀ k i, ¬ (k = 215 ∧ i = 2) → a.1 k i = s.1 k i := fun k i q => by rw [ha, gw1_1, if_neg q]
  obtain ⟨u, u1, u2, u3, u4⟩ := sl_133_21 (n := n - 1) (by omega) 100000 0 a (by omega) (by omega) a2
  have u1 : gm_133_21 100000 0 a = _ := u1
  refine ⟨u, ?_, by rw [u2, ha]; rfl, fun k i h1 h2 => by rw [u3 k i h1, ak k i h2], fun i hi => ?_, ?_, fun k hk' i hi => ?_⟩
  · unfold gm_133
    rw [e, if_pos (by omega), if_pos (by omega), show (n : Int) - 1 = ((n - 1 : Nat) : Int) by omega, ← ha, u1]
  · rw [u4, if_pos ⟨by omega, hi⟩, ak 217 _ (by omega)]
    exact hk (n - 1) (by omega) i hi
  · rw [u3 215 2 (by decide), a2]
  · rw [u3 217 _ (by decide), ak 217 _ (by omega)]
    exact hk k (by omega) i hi
/-- the class's side -/
def CV (s : gx_S) (f : Nat → Int) (R C n : Nat) (pf : Nat → Nat → Int) (L : Nat) (tb : Nat → Int) : Prop := MR s 1 f R C ∧ (∀ g, g < 3 → ∃ D, GGD s f R C g (71 + 48 * g) D) ∧ HC s n pf ∧ s.1 14 1 = L ∧ ∀ i, i < L → s.1 15 i = tb i
/-- the class's side behind an act -/
def CW (s : gx_S) (f : Nat → Int) (R C n : Nat) (pf : Nat → Nat → Int) (L : Nat) (tb : Nat → Int) : Prop := MR s 1 f R C ∧ G0 s ∧ HC s n pf ∧ s.1 14 1 = L ∧ ∀ i, i < L → s.1 15 i = tb i
/-- the reference's side -/
def RV (s : gx_S) (f : Nat → Int) (n : Nat) (pf : Nat → Nat → Int) (L : Nat) (tb : Nat → Int) : Prop := s.1 216 = f ∧ HRf s n pf ∧ s.1 215 4 = L ∧ (∀ i, i < L → (Int32.ofInt (s.1 218 i) &&& Int32.ofInt 255).toInt = tb i) ∧ SC s
/-- the map and the tape themselves -/
def AV (f : Nat → Int) (R C L : Nat) (tb : Nat → Int) : Prop := MP f R C ∧ L ≤ 200 ∧ ∀ i, i < L → 0 ≤ tb i ∧ tb i ≤ 255
def INV (s : gx_S) : Prop := ∃ (f : Nat → Int) (R C n : Nat) (pf : Nat → Nat → Int) (L : Nat) (tb : Nat → Int), CV s f R C n pf L tb ∧ RV s f n pf L tb ∧ AV f R C L tb
/-- only the class's cells change; only the reference's -/
def KC (s u : gx_S) : Prop := (∀ k j, 215 ≤ k → u.1 k j = s.1 k j) ∧ ∀ k j, 215 ≤ k → u.2 k j = s.2 k j
def KF (s u : gx_S) : Prop := (∀ k j, k < 215 → u.1 k j = s.1 k j) ∧ ∀ k j, k < 215 → u.2 k j = s.2 k j
theorem KC_tr {s t u : gx_S} (a : KC s t) (b : KC t u) : KC s u := ⟨fun k j h => (b.1 k j h).trans (a.1 k j h), fun k j h => (b.2 k j h).trans (a.2 k j h)⟩
theorem KF_tr {s t u : gx_S} (a : KF s t) (b : KF t u) : KF s u := ⟨fun k j h => (b.1 k j h).trans (a.1 k j h), fun k j h => (b.2 k j h).trans (a.2 k j h)⟩
theorem KC_rf (s : gx_S) : KC s s := ⟨fun _ _ _ => rfl, fun _ _ _ => rfl⟩
theorem KF_rf (s : gx_S) : KF s s := ⟨fun _ _ _ => rfl, fun _ _ _ => rfl⟩
theorem KR_KF {s u : gx_S} (a : KRw s u) : KF s u := ⟨fun k j h => a.1 k j (.inl h), a.2.1⟩
theorem KG_KC {a : Nat} {s u : gx_S} (ha : ga a) (x : KG a s u) : KC s u := ⟨fun k j h => x.2 k j (by omega) (by have := ha.2.1; omega), fun k j _ => by rw [x.1]⟩
theorem HC_o {s u : gx_S} {n : Nat} {pf : Nat → Nat → Int} (o : ∀ k j, 16 ≤ k → k ≤ 57 → u.1 k j = s.1 k j) (h : HC s n pf) : HC u n pf := by
  obtain ⟨h1, p, h2, h3, h4, h5⟩ := h
  refine ⟨h1, p, h2, (o _ _ (by omega) (by omega)).trans h3, (o _ _ (by omega) (by omega)).trans h4, fun k hk => ?_⟩
  obtain ⟨R, C, x, y⟩ := h5 k hk
  exact ⟨R, C, x, MR_o (fun k' j q1 q2 => o k' j (by omega) (by omega)) y⟩
theorem GGD_o {s u : gx_S} {f : Nat → Int} {R C g a D : Nat} (o : ∀ k j, a ≤ k → k < a + 48 → u.1 k j = s.1 k j) (h : GGD s f R C g a D) : GGD u f R C g a D := by
  obtain ⟨h1, h2, h3, g1, g2, g4, g8, g16, g32⟩ := h
  refine ⟨h1, (o _ _ (by omega) (by omega)).trans h2, (o _ _ (by omega) (by omega)).trans h3, fun h => ?_, fun h => ⟨(g2 h).1, TM_o (fun k j q1 q2 => o k j (by omega) (by omega)) (g2 h).2⟩, fun h => TR_o (fun k j q1 q2 => o k j (by omega) (by omega)) (g4 h), fun h => ⟨(g8 h).1, TR_o (fun k j q1 q2 => o k j (by omega) (by omega)) (g8 h).2⟩, fun h => TR_o (fun k j q1 q2 => o k j (by omega) (by omega)) (g16 h), fun h => ⟨(g32 h).1, fun k hk => by rw [o _ _ (by omega) (by omega)]; exact (g32 h).2 k hk⟩⟩
  obtain ⟨x1, x2, x3⟩ := g1 h
  exact ⟨fun z hz => (o _ _ (by omega) (by omega)).trans (x1 z hz), (o _ _ (by omega) (by omega)).trans x2, (o _ _ (by omega) (by omega)).trans x3⟩
theorem CV_o {s u : gx_S} {f : Nat → Int} {R C n L : Nat} {pf : Nat → Nat → Int} {tb : Nat → Int} (o : ∀ k j, (1 ≤ k ∧ k ≤ 5) ∨ (14 ≤ k ∧ k ≤ 57) ∨ (71 ≤ k ∧ k < 215) → u.1 k j = s.1 k j) (h : CV s f R C n pf L tb) : CV u f R C n pf L tb := by
  obtain ⟨h1, h2, h3, h4, h5⟩ := h
  refine ⟨MR_o (fun k j q1 q2 => o k j (by omega)) h1, fun g hg => ?_, HC_o (fun k j q1 q2 => o k j (by omega)) h3, (o _ _ (by omega)).trans h4, fun i hi => (o _ _ (by omega)).trans (h5 i hi)⟩
  obtain ⟨D, x⟩ := h2 g hg
  exact ⟨D, GGD_o (fun k j q1 q2 => o k j (by omega)) x⟩
theorem CV_KF {s u : gx_S} {f : Nat → Int} {R C n L : Nat} {pf : Nat → Nat → Int} {tb : Nat → Int} (k : KF s u) (h : CV s f R C n pf L tb) : CV u f R C n pf L tb := CV_o (fun k' j q => k.1 k' j (by omega)) h
theorem RV_KC {s u : gx_S} {f : Nat → Int} {n L : Nat} {pf : Nat → Nat → Int} {tb : Nat → Int} (k : KC s u) (h : RV s f n pf L tb) : RV u f n pf L tb := by
  obtain ⟨h1, ⟨h2, h3⟩, h4, h5, h6⟩ := h
  refine ⟨?_, ⟨(k.1 _ _ (by omega)).trans h2, fun k' hk i hi => (k.1 _ _ (by omega)).trans (h3 k' hk i hi)⟩, (k.1 _ _ (by omega)).trans h4, fun i hi => by rw [k.1 218 i (by omega)]; exact h5 i hi, ⟨fun j hj => ?_, fun c hc => ?_, fun i hi => ?_⟩⟩
  · funext i
    rw [k.1 216 i (by omega), h1]
  · rw [k.1 232 j (by omega), k.1 233 j (by omega), k.1 234 j (by omega), k.2 225 j (by omega)]
    exact h6.1 j hj
  · rw [k.1 235 c (by omega), k.2 229 c (by omega), k.2 230 c (by omega), k.2 227 c (by omega), k.2 228 c (by omega)]
    exact h6.2.1 c hc
  · rw [k.2 231 i (by omega)]
    exact h6.2.2 i hi
theorem RV_KR {s u : gx_S} {f : Nat → Int} {n L : Nat} {pf : Nat → Nat → Int} {tb : Nat → Int} (k : KRw s u) (h : RV s f n pf L tb) : RV u f n pf L tb := by
  obtain ⟨h1, ⟨h2, h3⟩, h4, h5, h6⟩ := h
  exact ⟨(KRw_216 k).trans h1, ⟨(k.1 215 2 (by omega)).trans h2, fun k' hk i hi => (k.1 217 _ (by omega)).trans (h3 k' hk i hi)⟩, (k.1 215 4 (by omega)).trans h4, fun i hi => by rw [k.1 218 i (by omega)]; exact h5 i hi, k.2.2 h6⟩
theorem CW_CV {s : gx_S} {f f' : Nat → Int} {R C n L : Nat} {pf : Nat → Nat → Int} {tb : Nat → Int} (M : MP f R C) (e : ∀ i, i < 340 → f' i = f i) (h : CW s f R C n pf L tb) : CV s f' R C n pf L tb := by
  obtain ⟨h1, h2, h3, h4, h5⟩ := h
  refine ⟨MR_c M.1.2.2.1 M.1.2.2.2 e h1, fun g hg => ⟨0, by omega, (h2 g hg).1, (h2 g hg).2, fun h => absurd h (by decide), fun h => absurd h (by decide), fun h => absurd h (by decide), fun h => absurd h (by decide), fun h => absurd h (by decide), fun h => absurd h (by decide)⟩, h3, h4, h5⟩
theorem CW_KF {s u : gx_S} {f : Nat → Int} {R C n L : Nat} {pf : Nat → Nat → Int} {tb : Nat → Int} (k : KF s u) (h : CW s f R C n pf L tb) : CW u f R C n pf L tb := by
  obtain ⟨h1, h2, h3, h4, h5⟩ := h
  exact ⟨MR_o (fun k' j q1 q2 => k.1 k' j (by omega)) h1, fun g hg => ⟨(k.1 _ _ (by omega)).trans (h2 g hg).1, (k.1 _ _ (by omega)).trans (h2 g hg).2⟩, HC_o (fun k' j q1 q2 => k.1 k' j (by omega)) h3, (k.1 _ _ (by omega)).trans h4, fun i hi => (k.1 _ _ (by omega)).trans (h5 i hi)⟩
/-- an act begins -/
theorem sp_119 {s : gx_S} {f : Nat → Int} {R C n L : Nat} {pf : Nat → Nat → Int} {tb : Nat → Int} (M : MP f R C) (h : CV s f R C n pf L tb) : ∃ u : gx_S, gm_119 s = some u ∧ CW u f R C (nn n) (pn n pf f) L tb ∧ u.2 = s.2 ∧ ∀ k j, ¬ (16 ≤ k ∧ k ≤ 57) → ¬ ((k = 71 ∨ k = 119 ∨ k = 167) ∧ j = 8) → u.1 k j = s.1 k j := by
  obtain ⟨h1, h2, h3, h4, h5⟩ := h
  obtain ⟨a, a1, a2, a3, a4⟩ := sp_31 h1 M h3
  obtain ⟨b, b1, b2, b3, b4, b5, b6⟩ := sp_120 a
  refine ⟨b, ?_, ⟨MR_o (fun k j q1 q2 => (b3 k j (by omega)).trans (a3 k j (by omega))) h1, fun g hg => ?_, HC_o (fun k j q1 q2 => b3 k j (by omega)) a4, ?_, fun i hi => ?_⟩, b2.trans a2, fun k j q1 q2 => (b3 k j q2).trans (a3 k j q1)⟩
  · unfold gm_119
    rw [a1, Option.bind_some, b1, Option.bind_some]
  · obtain ⟨D, x1, x2, x3, _⟩ := h2 g hg
    have e9 : b.1 (71 + 48 * g) 9 = g := by rw [b3 _ _ (by omega), a3 _ _ (by omega)]; exact x3
    refine ⟨?_, e9⟩
    rcases (show g = 0 ∨ g = 1 ∨ g = 2 by omega) with z | z | z
    · rw [z]; exact b4
    · rw [z]; exact b5
    · rw [z]; exact b6
  · rw [b3 _ _ (by omega), a3 _ _ (by omega)]
    exact h4
  · rw [b3 _ _ (by omega), a3 _ _ (by omega)]
    exact h5 i hi
/-- undo, on both sides -/
theorem inv_undo {s : gx_S} (h : INV s) : ∃ (r : Int) (u w : gx_S), gm_94 s = some (r, u) ∧ gm_133 u = some (r, w) ∧ INV w := by
  obtain ⟨f, R, C, n, pf, L, tb, c, r, v⟩ := h
  obtain ⟨c1, c2, c3, c4, c5⟩ := id c
  obtain ⟨n8, p, p8, e1, e2, e3⟩ := id c3
  unfold gm_94
  rw [e2, if_pos (by omega)]
  by_cases z : n = 0
  · rw [if_neg (by omega)]
    refine ⟨-1, s, s, rfl, ?_, f, R, C, n, pf, L, tb, c, r, v⟩
    unfold gm_133
    rw [r.2.1.1, if_pos (by omega), if_neg (by omega)]
  · rw [if_pos (by omega)]
    obtain ⟨a, a1, a2, a3, a4, a5, a6⟩ := sp_120 s
    have Ha : HC a n pf := HC_o (fun k j q1 q2 => a3 k j (by omega)) c3
    obtain ⟨b, R', C', b1, b2, b3, b4, b5, b6⟩ := sp_32 (by omega) Ha
    obtain ⟨_, p', _, _, b42, _⟩ := id b4
    have kc : KC s b := ⟨fun k j q => by rw [b3 k j (by omega) (by omega), a3 k j (by omega)], fun k j _ => by rw [b2, a2]⟩
    have rv := RV_KC kc r
    obtain ⟨w, w1, w2, w3, w4, w5⟩ := sp_133 n8 (by omega) rv.2.1
    rw [a1, Option.bind_some, b1, Option.bind_some]
    have ca : CW b (pf (n - 1)) R' C' (n - 1) pf L tb := by
      refine ⟨b6, fun g hg => ?_, b4, ?_, fun i hi => ?_⟩
      · obtain ⟨D, x1, x2, x3, _⟩ := c2 g hg
        refine ⟨?_, by rw [b3 _ _ (by omega) (by omega), a3 _ _ (by omega)]; exact x3⟩
        rw [b3 _ _ (by omega) (by omega)]
        rcases (show g = 0 ∨ g = 1 ∨ g = 2 by omega) with z | z | z
        · rw [z]; exact a4
        · rw [z]; exact a5
        · rw [z]; exact a6
      · rw [b3 _ _ (by omega) (by omega), a3 _ _ (by omega)]
        exact c4
      · rw [b3 _ _ (by omega) (by omega), a3 _ _ (by omega)]
        exact c5 i hi
    have kf : KF b w := ⟨fun k j q => w3 k j (by omega) (by omega), fun k j _ => by rw [w2]⟩
    refine ⟨((n - 1 : Nat) : Int), b, w, ?_, w1, w.1 216, R', C', n - 1, pf, L, tb, CW_CV b5 w4 (CW_KF kf ca), ⟨rfl, w5, by rw [w3 _ _ (by omega) (by omega)]; exact rv.2.2.1, fun i hi => by rw [w3 218 i (by omega) (by omega)]; exact rv.2.2.2.1 i hi, ⟨fun j hj => ?_, fun d hd => ?_, fun i hi => ?_⟩⟩, MP_c w4 b5, v.2⟩
    · rw [b42]
    · rw [w3 232 j (by omega) (by omega), w3 233 j (by omega) (by omega), w3 234 j (by omega) (by omega), w2]
      exact rv.2.2.2.2.1 j hj
    · rw [w3 235 d (by omega) (by omega), w2]
      exact rv.2.2.2.2.2.1 d hd
    · rw [w2]
      exact rv.2.2.2.2.2.2 i hi
end
section
/-! CALLS: end, weight, districtOf, settle, district -/
theorem sp_114 (s : gx_S) {x : Int} (h : i32 x) : gm_114 x s = some (decide (0 ≤ x ∧ x < 3), s) := by
  unfold i32 at h
  unfold gm_114
  rw [if_pos h]
  by_cases a : x < 0
  · rw [if_pos a, decide_eq_false (by omega)]
  · rw [if_neg a]
    by_cases b : 3 ≤ x
    · rw [if_pos b, decide_eq_false (by omega)]
    · rw [if_neg b, decide_eq_true (by omega)]
theorem sp_115 (s : gx_S) {x : Int} (h : i32 x) : gm_115 x s = some (decide (0 ≤ x ∧ x < 8), s) := by
  unfold i32 at h
  unfold gm_115
  rw [if_pos h]
  by_cases a : x < 0
  · rw [if_pos a, decide_eq_false (by omega)]
  · rw [if_neg a]
    by_cases b : 8 ≤ x
    · rw [if_pos b, decide_eq_false (by omega)]
    · rw [if_neg b, decide_eq_true (by omega)]
theorem sp_116 (s : gx_S) {x : Int} (h : i32 x) : gm_116 x s = some (decide (0 ≤ x ∧ x < 4), s) := by
  unfold i32 at h
  unfold gm_116
  rw [if_pos h]
  by_cases a : x < 0
  · rw [if_pos a, decide_eq_false (by omega)]
  · rw [if_neg a]
    by_cases b : 4 ≤ x
    · rw [if_pos b, decide_eq_false (by omega)]
    · rw [if_neg b, decide_eq_true (by omega)]
theorem sp_117 (s : gx_S) {x : Int} (h : i32 x) : gm_117 x s = some (decide (0 ≤ x ∧ x < 4), s) := by
  unfold i32 at h
  unfold gm_117
  rw [if_pos h]
  by_cases a : x < 0
  · rw [if_pos a, decide_eq_false (by omega)]
  · rw [if_neg a]
    by_cases b : 4 ≤ x
    · rw [if_pos b, decide_eq_false (by omega)]
    · rw [if_neg b, decide_eq_true (by omega)]
theorem in_ (s : gx_S) {x a b : Int} (h : i32 x) (ha : -1000 ≤ a ∧ a ≤ 1000) (hb : -1000 ≤ b ∧ b ≤ 1000) : gm_130 x a b s = some (decide (a ≤ x ∧ x ≤ b), s) := by
  unfold i32 at h
  exact sp_130 (by omega) (by omega) (by omega) s
theorem sp_148 (s : gx_S) {x : Int} (h : i32 x) : gm_148 x s = some (decide (0 ≤ x ∧ x ≤ 2), s) := by
  have h' := h
  unfold i32 at h'
  unfold gm_148
  rw [if_pos h', in_ s h (by omega) (by omega), Option.bind_some]
theorem gbD {c : Prop} [Decidable c] (s : gx_S) : (gb (decide c, s).1 = 0) ↔ ¬ c := by
  show gb (decide c) = 0 ↔ ¬ c
  rw [gb_bi]
  unfold bi
  by_cases h : c
  · rw [if_pos h]
    exact ⟨fun q => absurd q (by decide), fun q => absurd h q⟩
  · rw [if_neg h]
    exact ⟨fun _ => h, fun _ => rfl⟩
/-- a call on both sides, with the same answer -/
def two (s : gx_S) (a b : gx_S → Option (Int × gx_S)) : Prop := ∃ (r : Int) (u w : gx_S), a s = some (r, u) ∧ b u = some (r, w) ∧ INV w
theorem inv_end {s : gx_S} (h : INV s) {x : Int} (hx : i32 x) : two s (gm_86 x) (gm_136 x) := by
  obtain ⟨f, R, C, n, pf, L, tb, c, r, v⟩ := id h
  unfold i32 at hx
  have e1 := c.2.2.2.1
  have e2 := r.2.2.1
  have hL := v.2.1
  unfold two gm_86 gm_136
  by_cases a : x < 0
  · exact ⟨-1, s, s, by rw [if_pos hx, if_pos a], by rw [if_pos hx, if_pos a], h⟩
  · by_cases b : x ≤ L
    · refine ⟨x, gw1 s 14 1 x, gw1 (gw1 s 14 1 x) 215 4 x, by rw [if_pos hx, if_neg a, e1, if_pos (by omega), if_pos b], ?_, ?_⟩
      · have e3 : (gw1 s 14 1 x).1 215 4 = L := by rw [gw1_1, if_neg (by omega), e2]
        rw [if_pos hx, if_neg a, e3, if_pos (by omega), if_pos b]
      · have o : ∀ k j, ¬ (k = 14 ∧ j = 1) → ¬ (k = 215 ∧ j = 4) → (gw1 (gw1 s 14 1 x) 215 4 x).1 k j = s.1 k j := fun k j h1 h2 => by rw [gw1_1, if_neg h2, gw1_1, if_neg h1]
        refine ⟨f, R, C, n, pf, x.toNat, tb, ?_, ?_, v.1, by omega, fun i hi => v.2.2 i (by omega)⟩
        · obtain ⟨c1, c2, c3, c4, c5⟩ := c
          refine ⟨MR_o (fun k j q1 q2 => o k j (by omega) (by omega)) c1, fun g hg => ?_, HC_o (fun k j q1 q2 => o k j (by omega) (by omega)) c3, ?_, fun i hi => (o _ _ (by omega) (by omega)).trans (c5 i (by omega))⟩
          · obtain ⟨D, z⟩ := c2 g hg
            exact ⟨D, GGD_o (fun k j q1 q2 => o k j (by omega) (by omega)) z⟩
          · rw [gw1_1, if_neg (by omega), gw1_1, if_pos ⟨rfl, rfl⟩]
            omega
        · obtain ⟨r1, ⟨r2, r3⟩, r4, r5, r6⟩ := r
          refine ⟨?_, ⟨(o _ _ (by omega) (by omega)).trans r2, fun k hk i hi => (o _ _ (by omega) (by omega)).trans (r3 k hk i hi)⟩, ?_, fun i hi => by rw [o _ _ (by omega) (by omega)]; exact r5 i (by omega), ⟨fun j hj => ?_, fun d hd => ?_, r6.2.2⟩⟩
          · funext i
            rw [o 216 i (by omega) (by omega), r1]
          · rw [gw1_1, if_pos ⟨rfl, rfl⟩]
            omega
          · rw [o 232 j (by omega) (by omega), o 233 j (by omega) (by omega), o 234 j (by omega) (by omega)]
            exact r6.1 j hj
          · rw [o 235 d (by omega) (by omega)]
            exact r6.2.1 d hd
    · exact ⟨-1, s, s, by rw [if_pos hx, if_neg a, e1, if_pos (by omega), if_neg b], by rw [if_pos hx, if_neg a, e2, if_pos (by omega), if_neg b], h⟩
theorem inv_weight {s : gx_S} (h : INV s) {x y : Int} (hx : i32 x) (hy : i32 y) : two s (gm_112 x y) (gm_227 x y) := by
  obtain ⟨f, R, C, n, pf, L, tb, c, r, v⟩ := id h
  have hx' := hx
  have hy' := hy
  unfold i32 at hx' hy'
  unfold two gm_112 gm_227
  rw [sp_114 s hx, Option.bind_some]
  by_cases a : 0 ≤ x ∧ x < 3
  · rw [if_neg (fun q => (gbD s).mp q a), sp_116 s hy, Option.bind_some]
    by_cases b : 0 ≤ y ∧ y < 4
    · rw [if_neg (fun q => (gbD s).mp q b), if_pos (by omega)]
      have e : s.1 4 (x * 4 + y).toNat = s.1 216 ((32 + (4 * x)) + y).toNat := by
        have e1 := c.1.2.2.2.2.2.2.1 (x * 4 + y).toNat (by omega)
        rw [r.1]
        rw [show (1 : Nat) + 3 = 4 from rfl] at e1
        rw [e1]
        congr 1
        omega
      refine ⟨_, s, s, rfl, ?_, h⟩
      rw [sp_148 s hx, Option.bind_some, if_neg (fun q => (gbD s).mp q (by omega)), if_pos hy', in_ s hy (by omega) (by omega), Option.bind_some, if_neg (fun q => (gbD s).mp q (by omega)), if_pos (by omega), ← e]
    · rw [if_pos ((gbD s).mpr b)]
      refine ⟨-1, s, s, rfl, ?_, h⟩
      rw [sp_148 s hx, Option.bind_some, if_neg (fun q => (gbD s).mp q (by omega)), if_pos hy', in_ s hy (by omega) (by omega), Option.bind_some, if_pos ((gbD s).mpr (by omega))]
  · rw [if_pos ((gbD s).mpr a)]
    refine ⟨-1, s, s, rfl, ?_, h⟩
    rw [sp_148 s hx, Option.bind_some, if_pos ((gbD s).mpr (by omega))]
theorem inv_districtOf {s : gx_S} (h : INV s) {x : Int} (hx : i32 x) : two s (gm_113 x) (gm_228 x) := by
  obtain ⟨f, R, C, n, pf, L, tb, c, r, v⟩ := id h
  have hx' := hx
  unfold i32 at hx'
  unfold two gm_113 gm_228
  rw [sp_115 s hx, Option.bind_some]
  by_cases a : 0 ≤ x ∧ x < 8
  · rw [if_neg (fun q => (gbD s).mp q a), if_pos (by omega)]
    have e : s.1 5 x.toNat = s.1 216 (44 + x).toNat := by
      have e1 := c.1.2.2.2.2.2.2.2.1 x.toNat (by omega)
      rw [r.1]
      rw [show (1 : Nat) + 4 = 5 from rfl] at e1
      rw [e1]
      congr 1
      omega
    refine ⟨_, s, s, rfl, ?_, h⟩
    rw [if_pos hx', in_ s hx (by omega) (by omega), Option.bind_some, if_neg (fun q => (gbD s).mp q (by omega)), if_pos (by omega), ← e]
  · rw [if_pos ((gbD s).mpr a)]
    refine ⟨-1, s, s, rfl, ?_, h⟩
    rw [if_pos hx', in_ s hx (by omega) (by omega), Option.bind_some, if_pos ((gbD s).mpr (by omega))]
/-- an act that writes one cell of the map on each side -/
theorem inv_one {s : gx_S} {f : Nat → Int} {R C n L : Nat} {pf : Nat → Nat → Int} {tb : Nat → Int} (c : CV s f R C n pf L tb) (r : RV s f n pf L tb) (v : AV f R C L tb) {k j i : Nat} {x : Int} (hk : k < 6) (hM : MP (fun q => if q = i then x else f q) R C) (hR : ∀ u : gx_S, MR u 1 f R C → MR (gw1 u k j x) 1 (fun q => if q = i then x else f q) R C) : ∃ u w : gx_S, gm_119 s = some u ∧ gm_132 (gw1 u k j x) = some w ∧ w.1 216 = f ∧ INV (gw1 w 216 i x) := by
  obtain ⟨u, u1, u2, u3, u4⟩ := sp_119 v.1 c
  have kc : KC s (gw1 u k j x) := ⟨fun k' j' q => by rw [gw1_1, if_neg (by omega), u4 k' j' (by omega) (by omega)], fun k' j' _ => by rw [gw1_2, u3]⟩
  have rv := RV_KC kc r
  obtain ⟨w, w1, w2, w3, w4⟩ := sp_132 c.2.2.1.1 rv.2.1
  have ew : w.1 216 = f := by
    funext q
    rw [w3 216 q (by decide) (by omega), rv.1]
  rw [rv.1] at w4
  refine ⟨u, w, u1, w1, ew, fun q => if q = i then x else f q, R, C, nn n, pn n pf f, L, tb, ?_, ?_, hM, v.2⟩
  · have ca : CW (gw1 u k j x) (fun q => if q = i then x else f q) R C (nn n) (pn n pf f) L tb := by
      obtain ⟨a1, a2, a3, a4, a5⟩ := u2
      exact ⟨hR u a1, fun g hg => ⟨by rw [gw1_1, if_neg (by omega)]; exact (a2 g hg).1, by rw [gw1_1, if_neg (by omega)]; exact (a2 g hg).2⟩, HC_o (fun k' j' q1 q2 => by rw [gw1_1, if_neg (by omega)]) a3, by rw [gw1_1, if_neg (by omega)]; exact a4, fun q hq => by rw [gw1_1, if_neg (by omega)]; exact a5 q hq⟩
    have kf : KF (gw1 u k j x) (gw1 w 216 i x) := ⟨fun k' j' q => by rw [gw1_1 w, if_neg (by omega)]; exact w3 k' j' (by omega) (by omega), fun k' j' _ => by rw [gw1_2, w2]⟩
    exact CW_CV hM (fun _ _ => rfl) (CW_KF kf ca)
  · obtain ⟨r1, r2, r3, r4, r5⟩ := rv
    refine ⟨?_, ⟨by rw [gw1_1, if_neg (by omega)]; exact w4.1, fun q hq p hp => by rw [gw1_1, if_neg (by omega)]; exact w4.2 q hq p hp⟩, by rw [gw1_1, if_neg (by omega), w3 215 4 (by decide) (by omega)]; exact r3, fun p hp => by rw [gw1_1, if_neg (by omega), w3 218 p (by decide) (by omega)]; exact r4 p hp, ⟨fun p hp => ?_, fun d hd => ?_, fun p hp => ?_⟩⟩
    · funext q
      rw [gw1_1, ew]
      by_cases z : q = i
      · rw [if_pos ⟨rfl, z⟩, if_pos z]
      · rw [if_neg (fun t => z t.2), if_neg z]
    · rw [gw1_1, if_neg (by omega), gw1_1, if_neg (by omega), gw1_1, if_neg (by omega), w3 232 p (by decide) (by omega), w3 233 p (by decide) (by omega), w3 234 p (by decide) (by omega), gw1_2, w2]
      exact r5.1 p hp
    · rw [gw1_1, if_neg (by omega), w3 235 d (by decide) (by omega), gw1_2, w2]
      exact r5.2.1 d hd
    · rw [gw1_2, w2]
      exact r5.2.2 p hp
theorem MP_up {f : Nat → Int} {R C i : Nat} {x : Int} (M : MP f R C) (h : (i = 3 ∧ (x = 0 ∨ x = 1)) ∨ (i = 4 ∧ (x = 0 ∨ x = 1)) ∨ (32 ≤ i ∧ i < 44 ∧ 0 ≤ x ∧ x ≤ 9) ∨ (44 ≤ i ∧ i < 52 ∧ 0 ≤ x ∧ x ≤ 3)) : MP (fun q => if q = i then x else f q) R C := by
  obtain ⟨m1, m2, m3, m4, m5, m6, m7, m8, m10⟩ := M
  have o : ∀ q, q ≠ i → (if q = i then x else f q) = f q := fun q hq => if_neg hq
  refine ⟨?_, ?_, ?_, ?_, fun g hg => ⟨fun z hz => ?_, ?_⟩, fun q hq => ?_, fun q hq => ?_, fun l hl b k hk => ?_, by
    show ¬ (if 2 = i then x else f 2) = 0 → (if 2 = i then x else f 2) % 2 = 1 ∧ _
    rw [o 2 (by omega)]
    exact m10⟩
  · show ((if 0 = i then x else f 0) = _ ∧ (if 1 = i then x else f 1) = _ ∧ _ ∧ _)
    rw [o 0 (by omega), o 1 (by omega)]
    exact m1
  · show 0 ≤ (if 2 = i then x else f 2) ∧ (if 2 = i then x else f 2) < 8
    rw [o 2 (by omega)]
    exact m2
  · show (if 3 = i then x else f 3) = 0 ∨ (if 3 = i then x else f 3) = 1
    by_cases z : 3 = i
    · rw [if_pos z]; omega
    · rw [if_neg z]; exact m3
  · show (if 4 = i then x else f 4) = 0 ∨ (if 4 = i then x else f 4) = 1
    by_cases z : 4 = i
    · rw [if_pos z]; omega
    · rw [if_neg z]; exact m4
  · show 0 ≤ (if 5 + 9 * g + z = i then x else f (5 + 9 * g + z))
    rw [o _ (by omega)]
    exact (m5 g hg).1 z hz
  · rw [sg_eq (g := fun z => f (5 + 9 * g + z)) fun z hz => o _ (by omega)]
    exact (m5 g hg).2
  · show 0 ≤ (if 32 + q = i then x else f (32 + q)) ∧ (if 32 + q = i then x else f (32 + q)) ≤ 9
    by_cases z : 32 + q = i
    · rw [if_pos z]; omega
    · rw [if_neg z]; exact m6 q hq
  · show 0 ≤ (if 44 + q = i then x else f (44 + q)) ∧ (if 44 + q = i then x else f (44 + q)) ≤ 3
    by_cases z : 44 + q = i
    · rw [if_pos z]; omega
    · rw [if_neg z]; exact m7 q hq
  · show 0 ≤ (if 52 + 96 * l + 12 * (k / C) + k % C = i then x else f (52 + 96 * l + 12 * (k / C) + k % C)) ∧ (if 52 + 96 * l + 12 * (k / C) + k % C = i then x else f (52 + 96 * l + 12 * (k / C) + k % C)) ≤ _
    rw [o _ (by omega)]
    have b' : (if 2 = i then x else f 2) / 2 ^ l % 2 = 1 := b
    rw [o 2 (by omega)] at b'
    exact m8 l hl b' k hk
theorem MR_up {u : gx_S} {f : Nat → Int} {R C k j i : Nat} {x : Int} (m : MR u 1 f R C) (h : (k = 1 ∧ j = 7 ∧ i = 3) ∨ (k = 1 ∧ j = 8 ∧ i = 4) ∨ (k = 4 ∧ j < 12 ∧ i = 32 + j) ∨ (k = 5 ∧ j < 8 ∧ i = 44 + j)) : MR (gw1 u k j x) 1 (fun q => if q = i then x else f q) R C := by
  obtain ⟨m1, m2, m3, m4, m5, m6, m7, m8, m9⟩ := m
  have o : ∀ q, q ≠ i → (if q = i then x else f q) = f q := fun q hq => if_neg hq
  refine ⟨?_, ?_, ?_, ?_, ?_, fun q hq => ?_, fun q hq => ?_, fun q hq => ?_, fun l hl b k' hk => ?_⟩
  · show _ = (if 0 = i then x else f 0)
    rw [gw1_1, if_neg (by omega), o 0 (by omega)]; exact m1
  · show _ = (if 1 = i then x else f 1)
    rw [gw1_1, if_neg (by omega), o 1 (by omega)]; exact m2
  · show _ = (if 2 = i then x else f 2)
    rw [gw1_1, if_neg (by omega), o 2 (by omega)]; exact m3
  · show _ = (if 3 = i then x else f 3)
    rw [gw1_1]
    by_cases z : 3 = i
    · rw [if_pos z, if_pos (by omega)]
    · rw [if_neg z, if_neg (by omega)]; exact m4
  · show _ = (if 4 = i then x else f 4)
    rw [gw1_1]
    by_cases z : 4 = i
    · rw [if_pos z, if_pos (by omega)]
    · rw [if_neg z, if_neg (by omega)]; exact m5
  · show _ = (if 5 + q = i then x else f (5 + q))
    rw [gw1_1, if_neg (by omega), o _ (by omega)]; exact m6 q hq
  · show _ = (if 32 + q = i then x else f (32 + q))
    rw [gw1_1]
    by_cases z : 32 + q = i
    · rw [if_pos z, if_pos (by omega)]
    · rw [if_neg z, if_neg (by omega)]; exact m7 q hq
  · show _ = (if 44 + q = i then x else f (44 + q))
    rw [gw1_1]
    by_cases z : 44 + q = i
    · rw [if_pos z, if_pos (by omega)]
    · rw [if_neg z, if_neg (by omega)]; exact m8 q hq
  · show _ = (if 52 + 96 * l + 12 * (k' / C) + k' % C = i then x else f (52 + 96 * l + 12 * (k' / C) + k' % C))
    have b' : (if 2 = i then x else f 2) / 2 ^ l % 2 = 1 := b
    rw [o 2 (by omega)] at b'
    rw [gw1_1, if_neg (by omega), o _ (by omega)]
    exact m9 l hl b' k' hk
theorem inv_district {s : gx_S} (h : INV s) {x y : Int} (hx : i32 x) (hy : i32 y) : two s (gm_91 x y) (gm_216 x y) := by
  obtain ⟨f, R, C, n, pf, L, tb, c, r, v⟩ := id h
  have hx' := hx
  have hy' := hy
  unfold i32 at hx' hy'
  unfold two gm_91 gm_216
  rw [sp_115 s hx, Option.bind_some]
  by_cases a : 0 ≤ x ∧ x < 8
  · rw [if_neg (fun q => (gbD s).mp q a), sp_117 s hy, Option.bind_some]
    by_cases b : 0 ≤ y ∧ y < 4
    · obtain ⟨z, rfl⟩ : ∃ z : Nat, x = z := ⟨x.toNat, by omega⟩
      have i1 : ((z : Int)).toNat = z := by omega
      have i2 : (44 + (z : Int)).toNat = 44 + z := by omega
      have e5 : s.1 5 z = f (44 + z) := by
        have := c.1.2.2.2.2.2.2.2.1 z (by omega)
        rw [show (1 : Nat) + 4 = 5 from rfl] at this
        exact this
      have mr := v.1.2.2.2.2.2.2.1 z (by omega)
      have gR : ∀ t : gx_S, t.1 216 = f → ((if (-2147483648 ≤ (z : Int) ∧ (z : Int) ≤ 2147483647) then ((gm_130 z 0 7 t).bind fun q20 => if (gb q20.1) = 0 then some ((-1), q20.2) else (if (-2147483648 ≤ y ∧ y ≤ 2147483647) then ((gm_130 y 0 3 q20.2).bind fun q24 => if ¬ (gb q24.1) = 0 then (if 0 ≤ (44 + (z : Int)) ∧ (44 + (z : Int)) < 340 then (if (-2147483648 ≤ (q24.2.1 216 ((44 + (z : Int))).toNat) ∧ (q24.2.1 216 ((44 + (z : Int))).toNat) ≤ 2147483647) then (if ¬ (q24.2.1 216 ((44 + (z : Int))).toNat) = y then ((gm_132 q24.2).bind fun q32 => some ((q24.2.1 216 ((44 + (z : Int))).toNat), (gw1 q32 216 ((44 + (z : Int))).toNat y))) else some ((-2), q24.2)) else none) else none) else some ((-1), q24.2)) else none)) else none) : Option (Int × gx_S)) = if ¬ f (44 + z) = y then ((gm_132 t).bind fun q32 => some (f (44 + z), gw1 q32 216 (44 + z) y)) else some (-2, t) := fun t ht => by
        rw [if_pos hx', in_ t hx (by omega) (by omega), Option.bind_some, if_neg (fun q => (gbD t).mp q (by omega)), if_pos hy', in_ t hy (by omega) (by omega), Option.bind_some, if_pos (fun q => (gbD t).mp q (by omega)), if_pos (by omega)]
        show (if (-2147483648 ≤ (t.1 216 ((44 + (z : Int))).toNat) ∧ (t.1 216 ((44 + (z : Int))).toNat) ≤ 2147483647) then (if ¬ (t.1 216 ((44 + (z : Int))).toNat) = y then ((gm_132 t).bind fun q32 => some ((t.1 216 ((44 + (z : Int))).toNat), (gw1 q32 216 ((44 + (z : Int))).toNat y))) else some ((-2), t)) else none) = _
        rw [i2, ht, if_pos (by omega)]
      rw [if_pos (fun q => (gbD s).mp q b), if_pos (by omega)]
      show ∃ (r' : Int) (u w : gx_S), (if (-2147483648 ≤ (s.1 5 ((z : Int)).toNat) ∧ (s.1 5 ((z : Int)).toNat) ≤ 2147483647) then (if (-2147483648 ≤ y ∧ y ≤ 2147483647) then (if ¬ (s.1 5 ((z : Int)).toNat) = y then ((gm_119 s).bind fun q30 => some ((s.1 5 ((z : Int)).toNat), (gw1 q30 5 ((z : Int)).toNat y))) else some ((-2), s)) else none) else none) = some (r', u) ∧ _ = some (r', w) ∧ INV w
      rw [i1, e5, if_pos (by omega), if_pos hy']
      by_cases d : f (44 + z) = y
      · rw [if_neg (fun q => q d)]
        exact ⟨-2, s, s, rfl, (gR s r.1).trans (if_neg fun q => q d), h⟩
      · rw [if_pos d]
        obtain ⟨u, w, u1, w1, w2, w3⟩ := inv_one c r v (k := 5) (j := z) (i := 44 + z) (x := y) (by omega) (MP_up v.1 (by omega)) fun u m => MR_up m (by omega)
        refine ⟨f (44 + z), gw1 u 5 z y, gw1 w 216 (44 + z) y, by rw [u1, Option.bind_some], ?_, w3⟩
        have eu : (gw1 u 5 z y).1 216 = f := by
          obtain ⟨u', q1, q2, q3, q4⟩ := sp_119 v.1 c
          have e : u' = u := Option.some.inj (q1.symm.trans u1)
          funext q
          rw [gw1_1, if_neg (by omega), ← e, q4 216 q (by omega) (by omega), r.1]
        rw [gR _ eu, if_pos d, w1, Option.bind_some]
    · rw [if_neg (fun q => q ((gbD s).mpr b))]
      refine ⟨-1, s, s, rfl, ?_, h⟩
      rw [if_pos hx', in_ s hx (by omega) (by omega), Option.bind_some, if_neg (fun q => (gbD s).mp q (by omega)), if_pos hy', in_ s hy (by omega) (by omega), Option.bind_some, if_neg (fun q => q ((gbD s).mpr (by omega)))]
  · rw [if_pos ((gbD s).mpr a)]
    refine ⟨-1, s, s, rfl, ?_, h⟩
    rw [if_pos hx', in_ s hx (by omega) (by omega), Option.bind_some, if_pos ((gbD s).mpr (by omega))]
end
section
/-! CALLS: settle, weigh -/
/-- an act on both sides: what it leaves -/
theorem act_pre {s : gx_S} {f : Nat → Int} {R C n L : Nat} {pf : Nat → Nat → Int} {tb : Nat → Int} (c : CV s f R C n pf L tb) (r : RV s f n pf L tb) (v : AV f R C L tb) : ∃ u : gx_S, gm_119 s = some u ∧ MR u 1 f R C ∧ u.1 216 = f ∧ ∀ u' : gx_S, (∀ k j, 6 ≤ k → u'.1 k j = u.1 k j) → u'.2 = u.2 → u'.1 216 = f ∧ ∃ w : gx_S, gm_132 u' = some w ∧ w.1 216 = f ∧ ∀ (w' : gx_S) (fn : Nat → Int) (R' C' : Nat), (∀ k j, k ≠ 216 → w'.1 k j = w.1 k j) → w'.2 = w.2 → MP fn R' C' → MR u' 1 fn R' C' → (∀ i, i < 340 → w'.1 216 i = fn i) → INV w' := by
  obtain ⟨u, u1, u2, u3, u4⟩ := sp_119 v.1 c
  have eu : u.1 216 = f := by
    funext q
    rw [u4 216 q (by omega) (by omega), r.1]
  refine ⟨u, u1, u2.1, eu, fun u' h1 h2 => ?_⟩
  have eu' : u'.1 216 = f := by
    funext q
    rw [h1 216 q (by omega), eu]
  have kc : KC s u' := ⟨fun k j q => by rw [h1 k j (by omega), u4 k j (by omega) (by omega)], fun k j _ => by rw [h2, u3]⟩
  have rv := RV_KC kc r
  obtain ⟨w, w1, w2, w3, w4⟩ := sp_132 c.2.2.1.1 rv.2.1
  rw [rv.1] at w4
  have ew : w.1 216 = f := by
    funext q
    rw [w3 216 q (by decide) (by omega), eu']
  refine ⟨eu', w, w1, ew, fun w' fn R' C' k1 k2 hM hR e => ?_⟩
  obtain ⟨a1, a2, a3, a4, a5⟩ := u2
  have ca : CW u' fn R' C' (nn n) (pn n pf f) L tb := ⟨hR, fun g hg => ⟨by rw [h1 _ _ (by omega)]; exact (a2 g hg).1, by rw [h1 _ _ (by omega)]; exact (a2 g hg).2⟩, HC_o (fun k j q1 q2 => h1 k j (by omega)) a3, by rw [h1 _ _ (by omega)]; exact a4, fun q hq => by rw [h1 _ _ (by omega)]; exact a5 q hq⟩
  have kf : KF u' w' := ⟨fun k j q => by rw [k1 k j (by omega)]; exact w3 k j (by omega) (by omega), fun k j _ => by rw [k2, w2]⟩
  obtain ⟨r1, r2, r3, r4, r5⟩ := rv
  refine ⟨w'.1 216, R', C', nn n, pn n pf f, L, tb, CW_CV hM e (CW_KF kf ca), ⟨rfl, ⟨by rw [k1 _ _ (by omega)]; exact w4.1, fun q hq p hp => by rw [k1 _ _ (by omega)]; exact w4.2 q hq p hp⟩, by rw [k1 _ _ (by omega), w3 215 4 (by decide) (by omega)]; exact r3, fun p hp => by rw [k1 _ _ (by omega), w3 218 p (by decide) (by omega)]; exact r4 p hp, ⟨fun p hp => ?_, fun d hd => ?_, fun p hp => ?_⟩⟩, MP_c e hM, v.2⟩
  · rw [k1 _ _ (by omega), k1 _ _ (by omega), k1 _ _ (by omega), w3 232 p (by decide) (by omega), w3 233 p (by decide) (by omega), w3 234 p (by decide) (by omega), k2, w2]
    exact r5.1 p hp
  · rw [k1 _ _ (by omega), w3 235 d (by decide) (by omega), k2, w2]
    exact r5.2.1 d hd
  · rw [k2, w2]
    exact r5.2.2 p hp
theorem inv_settle {s : gx_S} (h : INV s) {x y : Int} (hx : i32 x) (hy : i32 y) : two s (gm_90 x y) (gm_215 x y) := by
  obtain ⟨f, R, C, n, pf, L, tb, c, r, v⟩ := id h
  have hx' := hx
  have hy' := hy
  unfold i32 at hx' hy'
  by_cases a : 0 ≤ x ∧ x ≤ 1
  · by_cases b : 0 ≤ y ∧ y ≤ 1
    · obtain ⟨z, rfl⟩ : ∃ z : Nat, x = z := ⟨x.toNat, by omega⟩
      have z2 : z = 0 ∨ z = 1 := by omega
      have i2 : (3 + (z : Int)).toNat = 3 + z := by omega
      have fr : f (3 + z) = 0 ∨ f (3 + z) = 1 := by
        rcases z2 with e | e
        · rw [e]; exact v.1.2.2.1
        · rw [e]; exact v.1.2.2.2.1
      have cl : s.1 1 (7 + z) = f (3 + z) := by
        rcases z2 with e | e
        · rw [e]; exact c.1.2.2.2.1
        · rw [e]; exact c.1.2.2.2.2.1
      have e1 : gm_90 z y s = if ¬ f (3 + z) = y then ((gm_119 s).bind fun q5 => some (f (3 + z), gw1 q5 1 (7 + z) y)) else some (-2, s) := by
        have st : gm_90 z y s = gm_90_41 z y (f (3 + z)) s := by
          unfold gm_90
          rw [if_pos hx', if_neg (by omega), if_neg (by omega), if_pos hy', if_neg (by omega), if_pos b.2]
          rcases z2 with e | e
          · rw [e] at cl ⊢
            have cl : s.1 1 7 = f (3 + 0) := cl
            rw [if_neg (by omega), cl]
          · rw [e] at cl ⊢
            have cl : s.1 1 8 = f (3 + 1) := cl
            rw [if_pos (by omega), cl]
        rw [st]
        unfold gm_90_41
        rw [if_pos (by omega), if_pos hy']
        by_cases d : f (3 + z) = y
        · rw [if_neg (fun q => q d), if_neg (fun q => q d)]
        · rw [if_pos d, if_pos d]
          congr 1
          funext q5
          rw [if_pos hx']
          rcases z2 with e | e
          · rw [e, if_neg (by omega)]
            rfl
          · rw [e, if_pos (by omega)]
            rfl
      have e2 : ∀ t : gx_S, t.1 216 = f → gm_215 z y t = if ¬ f (3 + z) = y then ((gm_132 t).bind fun q32 => some (f (3 + z), gw1 q32 216 (3 + z) y)) else some (-2, t) := fun t ht => by
        unfold gm_215
        rw [if_pos hx', in_ t hx (by omega) (by omega), Option.bind_some, if_neg (fun q => (gbD t).mp q (by omega)), if_pos hy', in_ t hy (by omega) (by omega), Option.bind_some, if_pos (fun q => (gbD t).mp q (by omega)), if_pos (by omega)]
        show (if (-2147483648 ≤ (t.1 216 ((3 + (z : Int))).toNat) ∧ (t.1 216 ((3 + (z : Int))).toNat) ≤ 2147483647) then (if ¬ (t.1 216 ((3 + (z : Int))).toNat) = y then ((gm_132 t).bind fun q32 => some ((t.1 216 ((3 + (z : Int))).toNat), (gw1 q32 216 ((3 + (z : Int))).toNat y))) else some ((-2), t)) else none) = _
        rw [i2, ht, if_pos (by omega)]
      unfold two
      by_cases d : f (3 + z) = y
      · exact ⟨-2, s, s, e1.trans (if_neg fun q => q d), (e2 s r.1).trans (if_neg fun q => q d), h⟩
      · obtain ⟨u, u1, u2, u3, u4⟩ := act_pre c r v
        obtain ⟨g1, w, w1, w2, w3⟩ := u4 (gw1 u 1 (7 + z) y) (fun k j q => by rw [gw1_1, if_neg (by omega)]) rfl
        refine ⟨f (3 + z), gw1 u 1 (7 + z) y, gw1 w 216 (3 + z) y, ?_, ?_, w3 _ (fun q => if q = 3 + z then y else f q) R C (fun k j q => by rw [gw1_1, if_neg (fun t => q t.1)]) rfl (MP_up v.1 (by omega)) (MR_up u2 (by omega)) fun i hi => ?_⟩
        · rw [e1, if_pos d, u1, Option.bind_some]
        · rw [e2 _ g1, if_pos d, w1, Option.bind_some]
        · show _ = (if i = 3 + z then y else f i)
          rw [gw1_1, w2]
          by_cases q : i = 3 + z
          · rw [if_pos ⟨rfl, q⟩, if_pos q]
          · rw [if_neg (fun t => q t.2), if_neg q]
    · unfold two gm_90 gm_215
      refine ⟨-1, s, s, ?_, ?_, h⟩
      · rw [if_pos hx', if_neg (by omega), if_neg (by omega), if_pos hy']
        by_cases d : y < 0
        · rw [if_pos d]
        · rw [if_neg d, if_neg (by omega)]
      · rw [if_pos hx', in_ s hx (by omega) (by omega), Option.bind_some, if_neg (fun q => (gbD s).mp q (by omega)), if_pos hy', in_ s hy (by omega) (by omega), Option.bind_some, if_neg (fun q => q ((gbD s).mpr (by omega)))]
  · unfold two gm_90 gm_215
    refine ⟨-1, s, s, ?_, ?_, h⟩
    · rw [if_pos hx']
      by_cases d : x < 0
      · rw [if_pos d]
      · rw [if_neg d, if_pos (by omega)]
    · rw [if_pos hx', in_ s hx (by omega) (by omega), Option.bind_some, if_pos ((gbD s).mpr (by omega))]
/-- weights of a row of groups -/
def fw (f : Nat → Int) (a b y : Nat) (x : Int) (q : Nat) : Int := if 32 + 4 * a + y ≤ q ∧ q ≤ 32 + 4 * b + y ∧ (q - 32 - y) % 4 = 0 then x else f q
theorem sl_89_137 {a b y : Nat} {x v : Int} (hy : y < 4) (hb : b < 3) : ∀ (n j : Nat) (s : gx_S), b + 1 < n + j → j ≤ b + 1 → ∃ u : gx_S, gm_89_137 n y x b v j s = some (v, u) ∧ u.2 = s.2 ∧ (∀ k i, k ≠ 4 → u.1 k i = s.1 k i) ∧ ∀ i, u.1 4 i = if 4 * j + y ≤ i ∧ i ≤ 4 * b + y ∧ (i - y) % 4 = 0 then x else s.1 4 i := by
  intro n
  induction n with
  | zero => intro j s h; omega
  | succ n ih =>
    intro j s h hj
    rw [gm_89_137, if_pos (by omega), if_pos (by omega)]
    by_cases q : j = b + 1
    · rw [if_pos (by omega)]
      exact ⟨s, rfl, rfl, fun _ _ _ => rfl, fun i => by rw [if_neg (by omega)]⟩
    · have ce : ((j : Int) + 1) = ((j + 1 : Nat) : Int) := rfl
      have i1 : (((j : Int) * 4) + (y : Int)).toNat = 4 * j + y := by omega
      rw [if_neg (by omega), if_pos (by omega), i1, ce]
      obtain ⟨u, u1, u2, u3, u4⟩ := ih (j + 1) (gw1 s 4 (4 * j + y) x) (by omega) (by omega)
      refine ⟨u, u1, u2, fun k i h1 => by rw [u3 k i h1, gw1_1, if_neg (fun t => h1 t.1)], fun i => ?_⟩
      rw [u4, gw1_1]
      by_cases z : i = 4 * j + y
      · rw [if_neg (show ¬ (4 * (j + 1) + y ≤ i ∧ i ≤ 4 * b + y ∧ (i - y) % 4 = 0) by omega), if_pos ⟨rfl, z⟩, if_pos (show 4 * j + y ≤ i ∧ i ≤ 4 * b + y ∧ (i - y) % 4 = 0 by omega)]
      · rw [if_neg (show ¬ ((4 : Nat) = 4 ∧ i = 4 * j + y) from fun t => z t.2)]
        by_cases z2 : 4 * (j + 1) + y ≤ i ∧ i ≤ 4 * b + y ∧ (i - y) % 4 = 0
        · rw [if_pos z2, if_pos (show 4 * j + y ≤ i ∧ i ≤ 4 * b + y ∧ (i - y) % 4 = 0 by omega)]
        · rw [if_neg z2, if_neg (show ¬ (4 * j + y ≤ i ∧ i ≤ 4 * b + y ∧ (i - y) % 4 = 0) by omega)]
theorem sl_89_62 {a b y : Nat} {x : Int} {s : gx_S} (hy : y < 4) (hab : a ≤ b) (hb : b < 3) (hx : i32 x) (hs : ∀ i, i < 12 → i32 (s.1 4 i)) : ∀ (n j : Nat) (fl : Int), b + 1 < n + j → a ≤ j → j ≤ b + 1 → (fl = 0 ∨ fl = 1) → ∃ v : Bool, gm_89_62 n y x a b fl j s = (if v = true then some (-2, s) else (gm_119 s).bind fun q => gm_89_137 100000 y x b (s.1 4 (4 * a + y)) a q) ∧ (v = true ↔ (fl = 1 ∧ ∀ g, j ≤ g → g ≤ b → s.1 4 (4 * g + y) = x)) := by
  unfold i32 at hx hs
  intro n
  induction n with
  | zero => intro j fl h; omega
  | succ n ih =>
    intro j fl h h1 h2 h3
    have ia : (((a : Int) * 4) + (y : Int)).toNat = 4 * a + y := by omega
    rw [gm_89_62, if_pos (by omega), if_pos (by omega)]
    by_cases q : j = b + 1
    · rw [if_pos (by omega), if_pos (by omega)]
      rcases h3 with e | e
      · rw [e, if_pos rfl, if_pos (by omega), ia]
        exact ⟨false, (if_neg Bool.false_ne_true).symm, fun t => Bool.noConfusion t, fun t => absurd t.1 (by decide)⟩
      · rw [e, if_neg (by decide)]
        exact ⟨true, (if_pos rfl).symm, fun _ => ⟨rfl, fun g g1 g2 => by omega⟩, fun _ => rfl⟩
    · have ce : ((j : Int) + 1) = ((j + 1 : Nat) : Int) := rfl
      have i1 : (((j : Int) * 4) + (y : Int)).toNat = 4 * j + y := by omega
      have sr := hs (4 * j + y) (by omega)
      rw [if_neg (by omega), if_pos (by omega)]
      unfold gm_89_97
      rcases h3 with e | e
      · obtain ⟨v, v1, v2⟩ := ih (j + 1) 0 (by omega) (by omega) (by omega) (.inl rfl)
        rw [e, if_pos rfl, ce]
        exact ⟨v, v1, fun t => absurd (v2.mp t).1 (by decide), fun t => absurd t.1 (by decide)⟩
      · rw [e, if_neg (by decide), if_pos (by omega), i1, if_pos sr, if_pos hx, ce]
        by_cases z : s.1 4 (4 * j + y) = x
        · rw [if_neg (fun t => t z)]
          obtain ⟨v, v1, v2⟩ := ih (j + 1) 1 (by omega) (by omega) (by omega) (.inr rfl)
          refine ⟨v, v1, fun t => ⟨rfl, fun g g1 g2 => ?_⟩, fun t => v2.mpr ⟨rfl, fun g g1 g2 => t.2 g (by omega) g2⟩⟩
          by_cases e2 : g = j
          · rw [e2]; exact z
          · exact (v2.mp t).2 g (by omega) g2
        · rw [if_pos z]
          obtain ⟨v, v1, v2⟩ := ih (j + 1) 0 (by omega) (by omega) (by omega) (.inl rfl)
          exact ⟨v, v1, fun t => absurd (v2.mp t).1 (by decide), fun t => absurd (t.2 j (Nat.le_refl j) (by omega)) z⟩
/-- a group is meant -/
def mt (x : Int) (g : Nat) : Prop := x = -1 ∨ x = g
theorem sl_213 {x w : Int} {y : Nat} {s : gx_S} (hx : -1 ≤ x ∧ x ≤ 2) (hy : y < 4) (hw : i32 w) (hs : ∀ i, i < 12 → i32 (s.1 216 (32 + i))) : ∀ (n j : Nat), 3 < n + j → j ≤ 3 → ∃ v : Bool, gm_213_3 n x y w j s = some (v, s) ∧ (v = true ↔ ∀ g, j ≤ g → g < 3 → mt x g → s.1 216 (32 + 4 * g + y) = w) := by
  unfold i32 at hw hs
  intro n
  induction n with
  | zero => intro j h; omega
  | succ n ih =>
    intro j h hj
    rw [gm_213_3, if_pos (by omega)]
    by_cases q : j = 3
    · rw [if_pos (by omega)]
      exact ⟨true, rfl, fun _ g g1 g2 => by omega, fun _ => rfl⟩
    · have ce : ((j : Int) + 1) = ((j + 1 : Nat) : Int) := rfl
      have i1 : ((32 + (4 * (j : Int))) + (y : Int)).toNat = 32 + 4 * j + y := by omega
      have sr := hs (4 * j + y) (by omega)
      rw [show 32 + (4 * j + y) = 32 + 4 * j + y by omega] at sr
      obtain ⟨v, v1, v2⟩ := ih (j + 1) (by omega) (by omega)
      have hit : mt x j → ∃ v : Bool, gm_213_20 (gm_213_3 n) x y w j s = some (v, s) ∧ (v = true ↔ ∀ g, j ≤ g → g < 3 → mt x g → s.1 216 (32 + 4 * g + y) = w) := fun m => by
        unfold gm_213_20
        rw [if_pos (by omega), i1, if_pos sr, if_pos hw]
        by_cases z : s.1 216 (32 + 4 * j + y) = w
        · rw [if_pos z]
          unfold gm_213_40
          rw [ce]
          refine ⟨v, v1, fun t g g1 g2 g3 => ?_, fun t => v2.mpr fun g g1 g2 g3 => t g (by omega) g2 g3⟩
          by_cases e : g = j
          · rw [e]; exact z
          · exact v2.mp t g (by omega) g2 g3
        · rw [if_neg z]
          exact ⟨false, rfl, fun t => Bool.noConfusion t, fun t => absurd (t j (by omega) (by omega) m) z⟩
      rw [if_neg (by omega), if_pos (by omega)]
      by_cases m1 : x = -1
      · rw [if_pos m1]
        exact hit (.inl m1)
      · rw [if_neg m1]
        by_cases m2 : x = (j : Int)
        · rw [if_neg (fun t => t m2)]
          exact hit (.inr m2)
        · rw [if_pos m2]
          unfold gm_213_40
          rw [ce]
          refine ⟨v, v1, fun t g g1 g2 g3 => ?_, fun t => v2.mpr fun g g1 g2 g3 => t g (by omega) g2 g3⟩
          by_cases e : g = j
          · rw [e] at g3
            rcases g3 with g3 | g3
            · exact absurd g3 m1
            · exact absurd g3 m2
          · exact v2.mp t g (by omega) g2 g3
theorem sl_214_79 {x w v : Int} {y a b : Nat} (hx : -1 ≤ x ∧ x ≤ 2) (hy : y < 4) (hb : b < 3) (hm : ∀ g, g < 3 → (mt x g ↔ a ≤ g ∧ g ≤ b)) : ∀ (n j : Nat) (s : gx_S), 3 < n + j → j ≤ 3 → ∃ u : gx_S, gm_214_79 n x y w v j s = some (v, u) ∧ u.2 = s.2 ∧ (∀ k i, k ≠ 216 → u.1 k i = s.1 k i) ∧ ∀ i, u.1 216 i = if 32 + 4 * j + y ≤ i ∧ 32 + 4 * a + y ≤ i ∧ i ≤ 32 + 4 * b + y ∧ (i - 32 - y) % 4 = 0 then w else s.1 216 i := by
  intro n
  induction n with
  | zero => intro j s h; omega
  | succ n ih =>
    intro j s h hj
    rw [gm_214_79, if_pos (by omega)]
    by_cases q : j = 3
    · rw [if_pos (by omega)]
      exact ⟨s, rfl, rfl, fun _ _ _ => rfl, fun i => by rw [if_neg (by omega)]⟩
    · have ce : ((j : Int) + 1) = ((j + 1 : Nat) : Int) := rfl
      have i1 : ((32 + (4 * (j : Int))) + (y : Int)).toNat = 32 + 4 * j + y := by omega
      have hit : mt x j → ∃ u : gx_S, gm_214_96 (gm_214_79 n) x y w v j s = some (v, u) ∧ u.2 = s.2 ∧ (∀ k i, k ≠ 216 → u.1 k i = s.1 k i) ∧ ∀ i, u.1 216 i = if 32 + 4 * j + y ≤ i ∧ 32 + 4 * a + y ≤ i ∧ i ≤ 32 + 4 * b + y ∧ (i - 32 - y) % 4 = 0 then w else s.1 216 i := fun m => by
        have m' := (hm j (by omega)).mp m
        unfold gm_214_96 gm_214_111
        rw [if_pos (by omega), i1, ce]
        obtain ⟨u, u1, u2, u3, u4⟩ := ih (j + 1) (gw1 s 216 (32 + 4 * j + y) w) (by omega) (by omega)
        refine ⟨u, u1, u2, fun k i h1 => by rw [u3 k i h1, gw1_1, if_neg (fun t => h1 t.1)], fun i => ?_⟩
        rw [u4, gw1_1]
        by_cases z : i = 32 + 4 * j + y
        · rw [if_neg (show ¬ (32 + 4 * (j + 1) + y ≤ i ∧ 32 + 4 * a + y ≤ i ∧ i ≤ 32 + 4 * b + y ∧ (i - 32 - y) % 4 = 0) by omega), if_pos ⟨rfl, z⟩, if_pos (show 32 + 4 * j + y ≤ i ∧ 32 + 4 * a + y ≤ i ∧ i ≤ 32 + 4 * b + y ∧ (i - 32 - y) % 4 = 0 by omega)]
        · rw [if_neg (show ¬ ((216 : Nat) = 216 ∧ i = 32 + 4 * j + y) from fun t => z t.2)]
          by_cases z2 : 32 + 4 * (j + 1) + y ≤ i ∧ 32 + 4 * a + y ≤ i ∧ i ≤ 32 + 4 * b + y ∧ (i - 32 - y) % 4 = 0
          · rw [if_pos z2, if_pos (show 32 + 4 * j + y ≤ i ∧ 32 + 4 * a + y ≤ i ∧ i ≤ 32 + 4 * b + y ∧ (i - 32 - y) % 4 = 0 by omega)]
          · rw [if_neg z2, if_neg (show ¬ (32 + 4 * j + y ≤ i ∧ 32 + 4 * a + y ≤ i ∧ i ≤ 32 + 4 * b + y ∧ (i - 32 - y) % 4 = 0) by omega)]
      rw [if_neg (by omega), if_pos (by omega)]
      by_cases m1 : x = -1
      · rw [if_pos m1]
        exact hit (.inl m1)
      · rw [if_neg m1]
        by_cases m2 : x = (j : Int)
        · rw [if_neg (fun t => t m2)]
          exact hit (.inr m2)
        · rw [if_pos m2]
          have nm : ¬ (a ≤ j ∧ j ≤ b) := fun t => by
            rcases (hm j (by omega)).mpr t with t | t
            · exact m1 t
            · exact m2 t
          unfold gm_214_111
          rw [ce]
          obtain ⟨u, u1, u2, u3, u4⟩ := ih (j + 1) s (by omega) (by omega)
          refine ⟨u, u1, u2, u3, fun i => ?_⟩
          rw [u4]
          by_cases z2 : 32 + 4 * (j + 1) + y ≤ i ∧ 32 + 4 * a + y ≤ i ∧ i ≤ 32 + 4 * b + y ∧ (i - 32 - y) % 4 = 0
          · rw [if_pos z2, if_pos (show 32 + 4 * j + y ≤ i ∧ 32 + 4 * a + y ≤ i ∧ i ≤ 32 + 4 * b + y ∧ (i - 32 - y) % 4 = 0 by omega)]
          · rw [if_neg z2, if_neg (show ¬ (32 + 4 * j + y ≤ i ∧ 32 + 4 * a + y ≤ i ∧ i ≤ 32 + 4 * b + y ∧ (i - 32 - y) % 4 = 0) by omega)]
theorem inv_weigh {s : gx_S} (h : INV s) {x y z : Int} (hx : i32 x) (hy : i32 y) (hz : i32 z) : two s (gm_89 x y z) (gm_214 x y z) := by
  obtain ⟨f, R, C, n, pf, L, tb, c, r, v⟩ := id h
  have hx' := hx
  have hy' := hy
  have hz' := hz
  unfold i32 at hx' hy' hz'
  have c1 : gm_89 x y z s = if -1 ≤ x ∧ x ≤ 2 then gm_89_12 x y z s else some (-1, s) := by
    unfold gm_89
    rw [if_pos hx']
    by_cases a : x = -1
    · rw [if_pos a, if_pos (by omega)]
    · rw [if_neg a, sp_114 s hx, Option.bind_some]
      by_cases b : 0 ≤ x ∧ x < 3
      · rw [if_neg (fun q => (gbD s).mp q b), if_pos (by omega)]
      · rw [if_pos ((gbD s).mpr b), if_neg (by omega)]
  by_cases a : -1 ≤ x ∧ x ≤ 2
  · have c2 : gm_89_12 x y z s = if (0 ≤ y ∧ y < 4) ∧ 0 ≤ z ∧ z ≤ 9 then gm_89_41 x y z (if x = -1 then 0 else x) s else some (-1, s) := by
      unfold gm_89_12
      rw [sp_116 s hy, Option.bind_some]
      by_cases b : 0 ≤ y ∧ y < 4
      · rw [if_neg (fun q => (gbD s).mp q b), if_pos hz']
        by_cases d : z < 0
        · rw [if_pos d, if_neg (fun t => by omega)]
        · rw [if_neg d]
          by_cases d2 : z ≤ 9
          · rw [if_pos d2, if_pos hx', if_pos (show (0 ≤ y ∧ y < 4) ∧ 0 ≤ z ∧ z ≤ 9 from ⟨b, by omega, d2⟩)]
            by_cases m1 : x = -1
            · rw [if_neg (fun t => t m1), if_pos m1]
            · rw [if_pos m1, if_neg m1]
          · rw [if_neg d2, if_neg (fun t => d2 t.2.2)]
      · rw [if_pos ((gbD s).mpr b), if_neg (fun t => b t.1)]
    by_cases b : (0 ≤ y ∧ y < 4) ∧ 0 ≤ z ∧ z ≤ 9
    · obtain ⟨y', rfl⟩ : ∃ y' : Nat, y = y' := ⟨y.toNat, by omega⟩
      have y4 : y' < 4 := by omega
      obtain ⟨aa, bb, hab, hbb, ea, eb, hm⟩ : ∃ aa bb : Nat, aa ≤ bb ∧ bb < 3 ∧ (if x = -1 then (0 : Int) else x) = aa ∧ (if ¬ x = -1 then x else (2 : Int)) = bb ∧ ∀ g, g < 3 → (mt x g ↔ aa ≤ g ∧ g ≤ bb) := by
        by_cases m1 : x = -1
        · refine ⟨0, 2, by omega, by omega, if_pos m1, if_neg (fun t => t m1), fun g hg => ?_⟩
          unfold mt
          omega
        · refine ⟨x.toNat, x.toNat, by omega, by omega, (if_neg m1).trans (by omega), (if_pos m1).trans (by omega), fun g hg => ?_⟩
          unfold mt
          omega
      have wr : ∀ i, i < 12 → s.1 4 i = f (32 + i) ∧ 0 ≤ f (32 + i) ∧ f (32 + i) ≤ 9 := fun i hi => by
        have e := c.1.2.2.2.2.2.2.1 i hi
        rw [show (1 : Nat) + 3 = 4 from rfl] at e
        exact ⟨e, v.1.2.2.2.2.2.1 i hi⟩
      have c3 : gm_89_41 x y' z (if x = -1 then 0 else x) s = gm_89_62 100000 y' z aa bb 1 aa s := by
        unfold gm_89_41 gm_89_53
        rw [if_pos hx', ea]
        by_cases m1 : x = -1
        · rw [if_neg (fun t => t m1)] at eb ⊢
          rw [← eb]
        · rw [if_pos m1] at eb ⊢
          rw [eb]
      obtain ⟨k0, c4, c5⟩ := sl_89_62 (s := s) (x := z) y4 hab hbb hz (fun i hi => by
        have := wr i hi
        unfold i32
        omega) 100000 aa 1 (by omega) (Nat.le_refl aa) (by omega) (.inr rfl)
      have r0 : ∀ t : gx_S, t.1 216 = f → ∃ q : Bool, gm_214 x y' z t = (if q = true then some (-2, t) else (gm_132 t).bind fun q45 => gm_214_79 100000 x y' z (q45.1 216 (32 + 4 * aa + y')) 0 q45) ∧ (q = true ↔ ∀ g, aa ≤ g → g ≤ bb → s.1 4 (4 * g + y') = z) := fun t ht => by
        obtain ⟨q, q1, q2⟩ := sl_213 (x := x) (w := z) (s := t) a y4 hz (fun i hi => by
          rw [ht]
          have := wr i hi
          unfold i32
          omega) 100000 0 (by omega) (by omega)
        have q1 : gm_213_3 100000 x y' z 0 t = some (q, t) := q1
        have im : ((32 + (4 * (if 0 < x then x else 0))) + (y' : Int)) = ((32 + 4 * aa + y' : Nat) : Int) := by
          by_cases m1 : x = -1
          · rw [if_pos m1] at ea
            rw [if_neg (by omega)]
            omega
          · rw [if_neg m1] at ea
            by_cases m2 : 0 < x
            · rw [if_pos m2]
              omega
            · rw [if_neg m2]
              omega
        refine ⟨q, ?_, q2.trans ⟨fun w g g1 g2 => ?_, fun w g g1 g2 g3 => ?_⟩⟩
        · unfold gm_214 gm_213
          rw [if_pos hx', in_ t hx (by omega) (by omega), Option.bind_some, if_neg (fun q => (gbD t).mp q (by omega)), if_pos hy', in_ t hy (by omega) (by omega), Option.bind_some, if_neg (fun q => (gbD t).mp q (by omega)), if_pos hz', in_ t hz (by omega) (by omega), Option.bind_some, if_pos (fun q => (gbD t).mp q (by omega))]
          show ((gm_213_3 100000 x y' z 0 t).bind _) = _
          rw [q1, Option.bind_some, im]
          cases q with
          | true => rw [if_neg (show ¬ gb (true, t).1 = 0 from (by decide : ¬ gb true = 0)), if_pos rfl]
          | false =>
            rw [if_pos (show gb (false, t).1 = 0 from (by decide : gb false = 0)), if_neg Bool.false_ne_true]
            have en : (((32 + 4 * aa + y' : Nat) : Int)).toNat = 32 + 4 * aa + y' := by omega
            have eb' : (0 ≤ (((32 + 4 * aa + y' : Nat) : Int)) ∧ (((32 + 4 * aa + y' : Nat) : Int)) < 340) := by omega
            simp only [en, if_pos eb']
        · have := w g (by omega) (by omega) ((hm g (by omega)).mpr ⟨g1, g2⟩)
          rw [ht] at this
          rw [(wr (4 * g + y') (by omega)).1, show 32 + (4 * g + y') = 32 + 4 * g + y' by omega]
          exact this
        · have g4 := (hm g g2).mp g3
          have := w g g4.1 g4.2
          rw [(wr (4 * g + y') (by omega)).1, show 32 + (4 * g + y') = 32 + 4 * g + y' by omega] at this
          rw [ht]
          exact this
      unfold two
      rw [c1, if_pos a, c2, if_pos b, c3, c4]
      by_cases d : ∀ g, aa ≤ g → g ≤ bb → s.1 4 (4 * g + y') = z
      · obtain ⟨q, q1, q2⟩ := r0 s r.1
        rw [if_pos (c5.mpr ⟨rfl, d⟩)]
        exact ⟨-2, s, s, rfl, by rw [q1, if_pos (q2.mpr d)], h⟩
      · rw [if_neg (fun t => d (c5.mp t).2)]
        obtain ⟨u, u1, u2, u3, u4⟩ := act_pre c r v
        rw [u1, Option.bind_some]
        obtain ⟨u', p1, p2, p3, p4⟩ := sl_89_137 (a := aa) (x := z) (v := s.1 4 (4 * aa + y')) y4 hbb 100000 aa u (by omega) (by omega)
        obtain ⟨g1, w, w1, w2, w3⟩ := u4 u' (fun k j q => p3 k j (by omega)) p2
        obtain ⟨q, q1, q2⟩ := r0 u' g1
        have qf : ¬ q = true := fun t => d (q2.mp t)
        obtain ⟨w', t1, t2, t3, t4⟩ := sl_214_79 (x := x) (w := z) (v := w.1 216 (32 + 4 * aa + y')) a y4 hbb hm 100000 0 w (by omega) (by omega)
        have t1 : gm_214_79 100000 x y' z (w.1 216 (32 + 4 * aa + y')) 0 w = _ := t1
        refine ⟨s.1 4 (4 * aa + y'), u', w', p1, ?_, w3 w' (fw f aa bb y' z) R C t3 t2 ?_ ?_ fun i hi => ?_⟩
        · rw [q1, if_neg qf, w1, Option.bind_some, t1, w2, (wr (4 * aa + y') (by omega)).1, show 32 + (4 * aa + y') = 32 + 4 * aa + y' by omega]
        · obtain ⟨m1, m2, m3, m4, m5, m6, m7, m8, m10⟩ := v.1
          have o : ∀ q, ¬ (32 ≤ q ∧ q < 44) → fw f aa bb y' z q = f q := fun q hq => if_neg (by omega)
          refine ⟨by rw [o 0 (by omega), o 1 (by omega)]; exact m1, by rw [o 2 (by omega)]; exact m2, by rw [o 3 (by omega)]; exact m3, by rw [o 4 (by omega)]; exact m4, fun g hg => ⟨fun i hi => by rw [o _ (by omega)]; exact (m5 g hg).1 i hi, ?_⟩, fun i hi => ?_, fun i hi => by rw [o _ (by omega)]; exact m7 i hi, fun l hl b' k hk => ?_, by rw [o 2 (by omega)]; exact m10⟩
          · rw [sg_eq (g := fun z => f (5 + 9 * g + z)) fun z hz => o _ (by omega)]
            exact (m5 g hg).2
          · unfold fw
            split
            · omega
            · exact m6 i hi
          · rw [o _ (by omega)]
            rw [o 2 (by omega)] at b'
            exact m8 l hl b' k hk
        · obtain ⟨m1, m2, m3, m4, m5, m6, m7, m8, m9⟩ := u2
          have o : ∀ q, ¬ (32 ≤ q ∧ q < 44) → fw f aa bb y' z q = f q := fun q hq => if_neg (by omega)
          refine ⟨by rw [p3 _ _ (by omega), o 0 (by omega)]; exact m1, by rw [p3 _ _ (by omega), o 1 (by omega)]; exact m2, by rw [p3 _ _ (by omega), o 2 (by omega)]; exact m3, by rw [p3 _ _ (by omega), o 3 (by omega)]; exact m4, by rw [p3 _ _ (by omega), o 4 (by omega)]; exact m5, fun i hi => by rw [p3 _ _ (by omega), o _ (by omega)]; exact m6 i hi, fun i hi => ?_, fun i hi => by rw [p3 _ _ (by omega), o _ (by omega)]; exact m8 i hi, fun l hl b' k hk => ?_⟩
          · have e7 := m7 i hi
            rw [show (1 : Nat) + 3 = 4 from rfl] at e7 ⊢
            rw [p4]
            unfold fw
            by_cases t : 4 * aa + y' ≤ i ∧ i ≤ 4 * bb + y' ∧ (i - y') % 4 = 0
            · rw [if_pos t, if_pos (by omega)]
            · rw [if_neg t, if_neg (by omega)]
              exact e7
          · rw [o 2 (by omega)] at b'
            rw [p3 _ _ (by omega), o _ (by omega)]
            exact m9 l hl b' k hk
        · rw [t4, w2]
          unfold fw
          by_cases t : 32 + 4 * aa + y' ≤ i ∧ i ≤ 32 + 4 * bb + y' ∧ (i - 32 - y') % 4 = 0
          · rw [if_pos (by omega), if_pos t]
          · rw [if_neg (by omega), if_neg t]
    · unfold two
      rw [c1, if_pos a, c2, if_neg b]
      refine ⟨-1, s, s, rfl, ?_, h⟩
      unfold gm_214
      rw [if_pos hx', in_ s hx (by omega) (by omega), Option.bind_some, if_neg (fun q => (gbD s).mp q (by omega)), if_pos hy', in_ s hy (by omega) (by omega), Option.bind_some]
      by_cases d : 0 ≤ y ∧ y ≤ 3
      · rw [if_neg (fun q => (gbD s).mp q d), if_pos hz', in_ s hz (by omega) (by omega), Option.bind_some, if_neg (fun q => q ((gbD s).mpr (by omega)))]
      · rw [if_pos ((gbD s).mpr d)]
  · unfold two
    rw [c1, if_neg a]
    refine ⟨-1, s, s, rfl, ?_, h⟩
    unfold gm_214
    rw [if_pos hx', in_ s hx (by omega) (by omega), Option.bind_some, if_pos ((gbD s).mpr (by omega))]
end
section
/-! CALLS: adopt -/
theorem CV_ready {s : gx_S} {f : Nat → Int} {R C n L g w : Nat} {pf : Nat → Nat → Int} {tb : Nat → Int} (hw : w = 2 ∨ w = 4 ∨ w = 8 ∨ w = 16 ∨ w = 32) (M : MP f R C) (h7 : f 2 = 7) (hg : g < 3) (c : CV s f R C n pf L tb) : ∃ (D : Nat) (u : gx_S), gm_19 (71 + 48 * g) w s = some u ∧ CV u f R C n pf L tb ∧ KG (71 + 48 * g) s u ∧ GGD u f R C g (71 + 48 * g) D ∧ D / w % 2 = 1 ∧ (w = 2 ∨ w = 4 ∨ w = 32 → D / 2 % 2 = 1 ∧ D / 1 % 2 = 1) := by
  obtain ⟨c1, c2, c3, c4, c5⟩ := c
  obtain ⟨D0, d0⟩ := c2 g hg
  have a := ga_of hg
  obtain ⟨D, u, u1, u2, u3, u4, u5⟩ := sp_19 hw c1 M h7 hg a d0
  refine ⟨D, u, u1, ⟨KG_MR a u2 c1, fun g' hg' => ?_, HC_o (fun k j q1 q2 => u2.2 k j (by omega) (by omega)) c3, (u2.2 _ _ (by omega) (by omega)).trans c4, fun i hi => (u2.2 _ _ (by omega) (by omega)).trans (c5 i hi)⟩, u2, u3, u4, u5⟩
  by_cases e : g' = g
  · rw [e]
    exact ⟨D, u3⟩
  · obtain ⟨D', d'⟩ := c2 g' hg'
    exact ⟨D', GGD_o (fun k j q1 q2 => u2.2 k j (by omega) (by omega)) d'⟩
/-- the moves and who is left aside are there -/
def MV (s : gx_S) (f : Nat → Int) (R C g : Nat) : Prop := TM s (71 + 48 * g + 3) f R C g ∧ s.1 (71 + 48 * g) 7 = ASf f R C g
theorem MV_o {s u : gx_S} {f : Nat → Int} {R C g : Nat} (o : ∀ k j, 71 + 48 * g ≤ k → k < 71 + 48 * g + 48 → ¬ (k = 71 + 48 * g ∧ j = 8) → u.1 k j = s.1 k j) (h : MV s f R C g) : MV u f R C g := ⟨TM_o (fun k j q1 q2 => o k j (by omega) (by omega) (by omega)) h.1, (o _ _ (by omega) (by omega) (by omega)).trans h.2⟩
theorem sl_93_14 {f : Nat → Int} {R C n L : Nat} {pf : Nat → Nat → Int} {tb : Nat → Int} (M : MP f R C) (h7 : f 2 = 7) : ∀ (m j : Nat) (s : gx_S), 3 < m + j → j ≤ 3 → CV s f R C n pf L tb → (∀ g, g < j → MV s f R C g) → ∃ u : gx_S, gm_93_14 m j s = ((gm_119 u).bind fun q4 => gm_93_44 100000 0 0 q4) ∧ CV u f R C n pf L tb ∧ KC s u ∧ ∀ g, g < 3 → MV u f R C g := by
  intro m
  induction m with
  | zero => intro j s h; omega
  | succ m ih =>
    intro j s h hj c hm
    rw [gm_93_14, if_pos (by omega)]
    by_cases q : j = 3
    · rw [if_pos (by omega)]
      exact ⟨s, rfl, c, KC_rf s, fun g hg => hm g (by omega)⟩
    · have hj' : j < 3 := by omega
      have ce : ((j : Int) + 1) = ((j + 1 : Nat) : Int) := rfl
      have i5 : ((j : Int)).toNat = j := by omega
      obtain ⟨D, t, t1, t2, t3, t4, t5, t6⟩ := CV_ready (w := 2) (.inl rfl) M h7 hj' c
      have t1 : gm_19 (71 + 48 * j) 2 s = some t := t1
      rw [if_neg (by omega), if_pos (by omega), i5, rf70 j hj', Option.bind_some, t1, Option.bind_some, ce]
      obtain ⟨_, _, _, g1, g2, _⟩ := t4
      have a := ga_of hj'
      obtain ⟨u, u1, u2, u3, u4⟩ := ih (j + 1) t (by omega) (by omega) t2 fun g hg => by
        by_cases e : g = j
        · rw [e]
          exact ⟨(g2 (t6 (.inl rfl)).1).2, (g1 (t6 (.inl rfl)).2).2.2⟩
        · exact MV_o (fun k j' q1 q2 _ => t3.2 k j' (by omega) (by omega)) (hm g (by omega))
      exact ⟨u, u1, u2, KC_tr (KG_KC a t3) u3, u4⟩
/-- what is counted behind adopt -/
def cn (f : Nat → Int) (R C g z : Nat) : Int := sg (fun x => GV f R C g x z) 8 + if z = 8 then ASf f R C g else 0
theorem sl_122 {f : Nat → Int} {R C g : Nat} (hg : g < 3) : ∀ (m j : Nat) (x : Int) (s : gx_S), 8 < m + j → j ≤ 8 → MV s f R C g → ∃ u : gx_S, gm_122_12 m g (71 + 48 * g) x j s = some (x + (sg (fun z => sg (fun x => GV f R C g x z) 8) 8 - sg (fun z => sg (fun x => GV f R C g x z) 8) j), u) ∧ u.2 = s.2 ∧ (∀ k i, k ≠ 3 → u.1 k i = s.1 k i) ∧ ∀ i, u.1 3 i = if 9 * g + j ≤ i ∧ i < 9 * g + 9 then cn f R C g (i - 9 * g) else s.1 3 i := by
  obtain ⟨_, t3, _⟩ := ga_g g hg
  intro m
  induction m with
  | zero => intro j x s h; omega
  | succ m ih =>
    intro j x s h hj V
    have col : ∀ y : Nat, y < 9 → gm_76 (71 + 48 * g + 3) y s = some (sg (fun x => GV f R C g x y) 8, s) := fun y hy => by
      rw [sp_76 t3 hy, sg_eq (g := fun x => GV f R C g x y) fun x hx => ((V.1.1 x hx).2.2 y hy).2.2.2]
    rw [gm_122_12, if_pos (by omega)]
    by_cases q : j = 8
    · have c8 := col 8 (by omega)
      have c8 : gm_76 (71 + 48 * g + 3) 8 s = _ := c8
      have i1 : (((g : Int) * 9) + 8).toNat = 9 * g + 8 := by omega
      rw [if_pos (by omega), c8, Option.bind_some, if_pos (by omega), i1]
      refine ⟨gw1 s 3 (9 * g + 8) (cn f R C g 8), ?_, rfl, fun k i h1 => by rw [gw1_1, if_neg (fun t => h1 t.1)], fun i => ?_⟩
      · have e : sg (fun x => GV f R C g x 8) 8 + s.1 (71 + 48 * g) 7 = cn f R C g 8 := by
          rw [V.2]
          rfl
        show some (x, gw1 s 3 (9 * g + 8) (sg (fun x => GV f R C g x 8) 8 + s.1 (71 + 48 * g) 7)) = _
        rw [e, q, Int.sub_self, Int.add_zero]
      · rw [gw1_1]
        by_cases z : i = 9 * g + 8
        · rw [if_pos ⟨rfl, z⟩, if_pos (by omega), z, show 9 * g + 8 - 9 * g = 8 by omega]
        · rw [if_neg (fun t => z t.2), if_neg (by omega)]
    · have ce : ((j : Int) + 1) = ((j + 1 : Nat) : Int) := rfl
      have i1 : (((g : Int) * 9) + (j : Int)).toNat = 9 * g + j := by omega
      rw [if_neg (by omega), col j (by omega), Option.bind_some, if_pos (by omega), i1, ce]
      have o : ∀ k i, k ≠ 3 → (gw1 s 3 (9 * g + j) (sg (fun x => GV f R C g x j) 8)).1 k i = s.1 k i := fun k i h1 => by rw [gw1_1, if_neg (fun t => h1 t.1)]
      obtain ⟨u, u1, u2, u3, u4⟩ := ih (j + 1) (x + sg (fun x => GV f R C g x j) 8) (gw1 s 3 (9 * g + j) (sg (fun x => GV f R C g x j) 8)) (by omega) (by omega) (MV_o (fun k i q1 q2 _ => o k i (by omega)) V)
      refine ⟨u, ?_, u2, fun k i h1 => (u3 k i h1).trans (o k i h1), fun i => ?_⟩
      · have e : sg (fun z => sg (fun x => GV f R C g x z) 8) (j + 1) = sg (fun z => sg (fun x => GV f R C g x z) 8) j + sg (fun x => GV f R C g x j) 8 := rfl
        rw [e] at u1
        show gm_122_12 m g (71 + 48 * g) (x + sg (fun x => GV f R C g x j) 8) ((j + 1 : Nat) : Int) (gw1 s 3 (9 * g + j) (sg (fun x => GV f R C g x j) 8)) = _
        rw [u1]
        congr 2
        omega
      · rw [u4, gw1_1]
        by_cases z : i = 9 * g + j
        · rw [if_neg (by omega), if_pos ⟨rfl, z⟩, if_pos (by omega), z, show 9 * g + j - 9 * g = j by omega]
          unfold cn
          rw [if_neg q, Int.add_zero]
        · by_cases z2 : 9 * g + (j + 1) ≤ i ∧ i < 9 * g + 9
          · rw [if_pos z2, if_pos (by omega)]
          · rw [if_neg z2, if_neg (fun t => z t.2), if_neg (by omega)]
/-- all who are moved into zones -/
def inz (f : Nat → Int) (R C g : Nat) : Int := sg (fun z => sg (fun x => GV f R C g x z) 8) 8
theorem sl_93_44 {f : Nat → Int} {R C : Nat} : ∀ (m j : Nat) (x : Int) (s : gx_S), 3 < m + j → j ≤ 3 → (∀ g, g < 3 → MV s f R C g) → ∃ u : gx_S, gm_93_44 m x j s = some (x + (sg (inz f R C) 3 - sg (inz f R C) j), gcp u 2 96 2 0 96) ∧ u.2 = s.2 ∧ (∀ k i, k ≠ 3 → u.1 k i = s.1 k i) ∧ ∀ i, u.1 3 i = if 9 * j ≤ i ∧ i < 27 then cn f R C (i / 9) (i % 9) else s.1 3 i := by
  intro m
  induction m with
  | zero => intro j x s h; omega
  | succ m ih =>
    intro j x s h hj V
    rw [gm_93_44, if_pos (by omega)]
    by_cases q : j = 3
    · rw [if_pos (by omega)]
      refine ⟨s, ?_, rfl, fun _ _ _ => rfl, fun i => by rw [if_neg (by omega)]⟩
      rw [q, Int.sub_self, Int.add_zero]
    · have hj' : j < 3 := by omega
      have ce : ((j : Int) + 1) = ((j + 1 : Nat) : Int) := rfl
      have i5 : ((j : Int)).toNat = j := by omega
      obtain ⟨t, t1, t2, t3, t4⟩ := sl_122 hj' 100000 0 0 s (by omega) (by omega) (V j hj')
      have t1 : gm_122_12 100000 j (71 + 48 * j) 0 0 s = some (0 + (inz f R C j - 0), t) := t1
      have st : gm_122 j s = some (inz f R C j, t) := by
        unfold gm_122
        rw [if_pos (by omega), i5, rf70 j hj', Option.bind_some, t1]
        congr 2
        omega
      rw [if_neg (by omega), st, Option.bind_some, ce]
      obtain ⟨u, u1, u2, u3, u4⟩ := ih (j + 1) (x + inz f R C j) t (by omega) (by omega) fun g hg => MV_o (fun k i q1 q2 _ => t3 k i (by omega)) (V g hg)
      refine ⟨u, ?_, u2.trans t2, fun k i h1 => (u3 k i h1).trans (t3 k i h1), fun i => ?_⟩
      · have e : sg (inz f R C) (j + 1) = sg (inz f R C) j + inz f R C j := rfl
        rw [e] at u1
        show gm_93_44 m (x + inz f R C j) ((j + 1 : Nat) : Int) t = _
        rw [u1]
        congr 2
        omega
      · rw [u4, t4]
        by_cases z : 9 * (j + 1) ≤ i ∧ i < 27
        · rw [if_pos z, if_pos (by omega)]
        · rw [if_neg z]
          by_cases z2 : 9 * j + 0 ≤ i ∧ i < 9 * j + 9
          · rw [if_pos z2, if_pos (by omega), show i / 9 = j by omega, show i % 9 = i - 9 * j by omega]
          · rw [if_neg z2, if_neg (by omega)]
theorem sp_176 {s : gx_S} {R C g : Nat} (M : MP (s.1 216) R C) (hg : g < 3) : gm_176 g s = some (ASf (s.1 216) R C g, s) := by
  obtain ⟨v, v1, v2⟩ := sp_175 M
  unfold gm_176 ASf
  rw [v1, Option.bind_some]
  cases v with
  | true => rw [if_neg (show ¬ gb (true, s).1 = 0 from (by decide : ¬ gb true = 0)), if_pos (v2.mp rfl)]
  | false =>
    rw [if_pos (show gb (false, s).1 = 0 from (by decide : gb false = 0)), if_neg (fun h => Bool.false_ne_true (v2.mpr h))]
    show ((gm_174 g s).bind _) = _
    rw [sp_174 M hg, Option.bind_some]
/-- the reference's cells of what is adopted alone, beside its scratch -/
theorem KR_245 (s : gx_S) (i : Nat) (v : Int) : KRw s (gw1 s 245 i v) := by
  have o : ∀ k j, k ≠ 245 → (gw1 s 245 i v).1 k j = s.1 k j := fun k j h => by rw [gw1_1, if_neg (fun t => h t.1)]
  refine ⟨fun k j q => o k j (by omega), fun _ _ _ => rfl, fun S => ⟨fun j hj => ?_, fun c hc => ?_, S.2.2⟩⟩
  · rw [o 232 j (by decide), o 233 j (by decide), o 234 j (by decide)]
    exact S.1 j hj
  · rw [o 235 c (by decide)]
    exact S.2.1 c hc
theorem sl_217_29 {f : Nat → Int} {R C g : Nat} (k : Int → Int → gx_S → Option (Int × gx_S)) (M : MP f R C) (hg : g < 3) : ∀ (m j : Nat) (x : Int) (s : gx_S), 9 < m + j → j ≤ 9 → s.1 216 = f → s.1 215 17 = 8 → (∀ x y, x < 8 → y < 9 → s.2 224 (9 * x + y) = GV f R C g x y) → (∀ z, z < j → s.1 245 (9 * g + z) = sg (fun x => GV f R C g x z) 8) → ∃ u : gx_S, gm_217_29 k m x g j s = k (x + (inz f R C g - sg (fun z => if z < 8 then sg (fun x => GV f R C g x z) 8 else 0) j)) ((g + 1 : Nat) : Int) u ∧ KRw s u ∧ (∀ z, z < 9 → u.1 245 (9 * g + z) = cn f R C g z) ∧ ∀ i, ¬ (9 * g ≤ i ∧ i < 9 * g + 9) → u.1 245 i = s.1 245 i := by
  intro m
  induction m with
  | zero => intro j x s h; omega
  | succ m ih =>
    intro j x s h hj ef e17 hT hz
    have col : ∀ (t : gx_S) (y : Nat), t.1 215 17 = 8 → t.2 = s.2 → y < 9 → gm_183 y t = some (sg (fun x => GV f R C g x y) 8, t) := fun t y e1 e2 hy => by
      rw [sp_183 (R := 8) e1 (by omega) hy, sg_eq (g := fun x => GV f R C g x y) fun x hx => by rw [e2]; exact hT x y hx hy]
    rw [gm_217_29, if_pos (by omega)]
    by_cases q : j = 9
    · have i1 : ((9 * (g : Int)) + 8).toNat = 9 * g + 8 := by omega
      have ce : ((g : Int) + 1) = ((g + 1 : Nat) : Int) := rfl
      have c76 := sp_176 (s := s) (R := R) (C := C) (by rw [ef]; exact M) hg
      rw [ef] at c76
      rw [if_pos (by omega), if_pos (by omega), c76, Option.bind_some, i1, ce, hz 8 (by omega)]
      refine ⟨gw1 s 245 (9 * g + 8) (sg (fun x => GV f R C g x 8) 8 + ASf f R C g), ?_, KR_245 s _ _, fun z hz' => ?_, fun i hi => by rw [gw1_1, if_neg (by omega)]⟩
      · have e : sg (fun z => if z < 8 then sg (fun x => GV f R C g x z) 8 else 0) 9 = inz f R C g := by
          rw [sg_cut0 (m := 8) (by omega) fun k h1 h2 => if_neg (by omega)]
          exact sg_eq fun z hz => if_pos hz
        rw [q, e, Int.sub_self, Int.add_zero]
      · unfold cn
        rw [gw1_1]
        by_cases z8 : z = 8
        · rw [if_pos ⟨rfl, by omega⟩, if_pos z8, z8]
        · rw [if_neg (by omega), if_neg z8, Int.add_zero]
          exact hz z (by omega)
    · have ce : ((j : Int) + 1) = ((j + 1 : Nat) : Int) := rfl
      have i1 : ((9 * (g : Int)) + (j : Int)).toNat = 9 * g + j := by omega
      rw [if_neg (by omega), col s j e17 rfl (by omega), Option.bind_some, if_pos (by omega), i1]
      obtain ⟨t, ht⟩ : ∃ t, t = gw1 s 245 (9 * g + j) (sg (fun x => GV f R C g x j) 8) := ⟨_, rfl⟩
      have to : ∀ k i, ¬ (k = 245 ∧ i = 9 * g + j) → t.1 k i = s.1 k i := fun k i h1 => by rw [ht, gw1_1, if_neg h1]
      have t2 : t.2 = s.2 := by rw [ht]; rfl
      have tk : KRw s t := by rw [ht]; exact KR_245 s _ _
      have tz : ∀ z, z < j + 1 → t.1 245 (9 * g + z) = sg (fun x => GV f R C g x z) 8 := fun z hz' => by
        by_cases e : z = j
        · rw [ht, e, gw1_1, if_pos ⟨rfl, rfl⟩]
        · rw [to _ _ (by omega)]
          exact hz z (by omega)
      have sgs : sg (fun z => if z < 8 then sg (fun x => GV f R C g x z) 8 else 0) (j + 1) = sg (fun z => if z < 8 then sg (fun x => GV f R C g x z) 8 else 0) j + if j < 8 then sg (fun x => GV f R C g x j) 8 else 0 := rfl
      have go : ∀ v : Int, v = (if j < 8 then sg (fun x => GV f R C g x j) 8 else 0) → ∃ u : gx_S, gm_217_67 (gm_217_29 k m) g j x v t = k (x + (inz f R C g - sg (fun z => if z < 8 then sg (fun x => GV f R C g x z) 8 else 0) j)) ((g + 1 : Nat) : Int) u ∧ KRw s u ∧ (∀ z, z < 9 → u.1 245 (9 * g + z) = cn f R C g z) ∧ ∀ i, ¬ (9 * g ≤ i ∧ i < 9 * g + 9) → u.1 245 i = s.1 245 i := fun v hv => by
        unfold gm_217_67
        rw [ce]
        obtain ⟨u, u1, u2, u3, u4⟩ := ih (j + 1) (x + v) t (by omega) (by omega) ((KRw_216 tk).trans ef) ((to _ _ (by omega)).trans e17) (fun x y hx hy => by rw [t2]; exact hT x y hx hy) tz
        refine ⟨u, ?_, KRw_tr tk u2, u3, fun i hi => (u4 i hi).trans (to _ _ (by omega))⟩
        rw [u1, sgs, ← hv]
        congr 1
        omega
      show ∃ u : gx_S, (if 8 ≤ (j : Int) then gm_217_67 (gm_217_29 k m) g j x 0 (gw1 s 245 (9 * g + j) (sg (fun x => GV f R C g x j) 8)) else ((gm_183 j (gw1 s 245 (9 * g + j) (sg (fun x => GV f R C g x j) 8))).bind fun q17 => gm_217_67 (gm_217_29 k m) g j x q17.1 q17.2)) = _ ∧ _
      rw [← ht]
      by_cases z8 : j = 8
      · rw [if_pos (by omega)]
        exact go 0 (by rw [if_neg (by omega)])
      · rw [if_neg (by omega), col t j ((to _ _ (by omega)).trans e17) t2 (by omega), Option.bind_some]
        exact go _ (by rw [if_pos (by omega)])
theorem sl_217_13 {f : Nat → Int} {R C : Nat} (M : MP f R C) (h7 : f 2 = 7) : ∀ (m j : Nat) (x : Int) (s : gx_S), 3 < m + j → j ≤ 3 → s.1 216 = f → SC s → (∀ g z, g < j → z < 9 → s.1 245 (9 * g + z) = cn f R C g z) → ∃ u : gx_S, gm_217_13 m x j s = ((gm_132 u).bind fun q4 => gm_217_107 100000 (x + (sg (inz f R C) 3 - sg (inz f R C) j)) 0 q4) ∧ KRw s u ∧ ∀ g z, g < 3 → z < 9 → u.1 245 (9 * g + z) = cn f R C g z := by
  intro m
  induction m with
  | zero => intro j x s h; omega
  | succ m ih =>
    intro j x s h hj ef S hz
    rw [gm_217_13, if_pos (by omega)]
    by_cases q : j = 3
    · rw [if_pos (by omega), q, Int.sub_self, Int.add_zero]
      exact ⟨s, rfl, KRw_rf s, fun g z hg hz' => hz g z (by omega) hz'⟩
    · have hj' : j < 3 := by omega
      obtain ⟨a, b, a1, b1, a2, b2, b3, b4, b5⟩ := sp_181f (s := s) (R := R) (C := C) (g := j) (by rw [ef]; exact M) (by rw [ef]; exact h7) hj' S
      rw [ef] at b5
      have bo : ∀ i, b.1 245 i = s.1 245 i := fun i => b2.1 245 i (by omega)
      rw [if_neg (by omega), a1, Option.bind_some, b1, Option.bind_some]
      obtain ⟨t, t1, t2, t3, t4⟩ := sl_217_29 (gm_217_13 m) M hj' 100000 0 x b (by omega) (by omega) ((KR_216 b2).trans ef) b3 (fun x y hx hy => ((b5 x hx).2.2 y hy).2) fun z hz => absurd hz (by omega)
      have t1 : gm_217_29 (gm_217_13 m) 100000 x j 0 b = gm_217_13 m (x + (inz f R C j - 0)) ((j + 1 : Nat) : Int) t := t1
      rw [t1]
      have Kt := KRw_tr (KR_w b2) t2
      obtain ⟨u, u1, u2, u3⟩ := ih (j + 1) (x + (inz f R C j - 0)) t (by omega) (by omega) ((KRw_216 Kt).trans ef) (Kt.2.2 S) fun g z hg hz' => by
        by_cases e : g = j
        · rw [e]
          exact t3 z hz'
        · rw [t4 _ (by omega), bo]
          exact hz g z (by omega) hz'
      refine ⟨u, ?_, KRw_tr Kt u2, u3⟩
      have e : sg (inz f R C) (j + 1) = sg (inz f R C) j + inz f R C j := rfl
      have e2 : x + (inz f R C j - 0) + (sg (inz f R C) 3 - sg (inz f R C) (j + 1)) = x + (sg (inz f R C) 3 - sg (inz f R C) j) := by rw [e]; omega
      rw [e2] at u1
      exact u1
end
section
/-! CALLS: adopt, on both sides -/
theorem act_pre2 {s : gx_S} {f : Nat → Int} {R C n L : Nat} {pf : Nat → Nat → Int} {tb : Nat → Int} (c : CV s f R C n pf L tb) (r : RV s f n pf L tb) (v : AV f R C L tb) : ∃ u : gx_S, gm_119 s = some u ∧ MR u 1 f R C ∧ u.1 216 = f ∧ (∀ k j, ¬ (16 ≤ k ∧ k ≤ 57) → ¬ ((k = 71 ∨ k = 119 ∨ k = 167) ∧ j = 8) → u.1 k j = s.1 k j) ∧ ∀ u' t : gx_S, (∀ k j, 6 ≤ k → u'.1 k j = u.1 k j) → u'.2 = u.2 → KRw u' t → SC u' ∧ u'.1 216 = f ∧ ∃ w : gx_S, gm_132 t = some w ∧ w.1 216 = f ∧ (∀ k i, k ≠ 217 → ¬ (k = 215 ∧ i = 2) → w.1 k i = t.1 k i) ∧ ∀ (w' : gx_S) (fn : Nat → Int) (R' C' : Nat), (∀ k j, k ≠ 216 → w'.1 k j = w.1 k j) → w'.2 = w.2 → MP fn R' C' → MR u' 1 fn R' C' → (∀ i, i < 340 → w'.1 216 i = fn i) → INV w' := by
  obtain ⟨u, u1, u2, u3, u4⟩ := sp_119 v.1 c
  have eu : u.1 216 = f := by
    funext q
    rw [u4 216 q (by omega) (by omega), r.1]
  refine ⟨u, u1, u2.1, eu, u4, fun u' t h1 h2 kt => ?_⟩
  have eu' : u'.1 216 = f := by
    funext q
    rw [h1 216 q (by omega), eu]
  have kc : KC s u' := ⟨fun k j q => by rw [h1 k j (by omega), u4 k j (by omega) (by omega)], fun k j _ => by rw [h2, u3]⟩
  have rv0 := RV_KC kc r
  have rv := RV_KR kt rv0
  obtain ⟨w, w1, w2, w3, w4⟩ := sp_132 c.2.2.1.1 rv.2.1
  rw [rv.1] at w4
  have ew : w.1 216 = f := by
    funext q
    rw [w3 216 q (by decide) (by omega), rv.1]
  refine ⟨rv0.2.2.2.2, eu', w, w1, ew, w3, fun w' fn R' C' k1 k2 hM hR e => ?_⟩
  obtain ⟨a1, a2, a3, a4, a5⟩ := u2
  have ca : CW u' fn R' C' (nn n) (pn n pf f) L tb := ⟨hR, fun g hg => ⟨by rw [h1 _ _ (by omega)]; exact (a2 g hg).1, by rw [h1 _ _ (by omega)]; exact (a2 g hg).2⟩, HC_o (fun k j q1 q2 => h1 k j (by omega)) a3, by rw [h1 _ _ (by omega)]; exact a4, fun q hq => by rw [h1 _ _ (by omega)]; exact a5 q hq⟩
  have kf : KF u' w' := KF_tr (KR_KF kt) ⟨fun k j q => by rw [k1 k j (by omega)]; exact w3 k j (by omega) (by omega), fun k j _ => by rw [k2, w2]⟩
  obtain ⟨r1, r2, r3, r4, r5⟩ := rv
  refine ⟨w'.1 216, R', C', nn n, pn n pf f, L, tb, CW_CV hM e (CW_KF kf ca), ⟨rfl, ⟨by rw [k1 _ _ (by omega)]; exact w4.1, fun q hq p hp => by rw [k1 _ _ (by omega)]; exact w4.2 q hq p hp⟩, by rw [k1 _ _ (by omega), w3 215 4 (by decide) (by omega)]; exact r3, fun p hp => by rw [k1 _ _ (by omega), w3 218 p (by decide) (by omega)]; exact r4 p hp, ⟨fun p hp => ?_, fun d hd => ?_, fun p hp => ?_⟩⟩, MP_c e hM, v.2⟩
  · rw [k1 _ _ (by omega), k1 _ _ (by omega), k1 _ _ (by omega), w3 232 p (by decide) (by omega), w3 233 p (by decide) (by omega), w3 234 p (by decide) (by omega), k2, w2]
    exact r5.1 p hp
  · rw [k1 _ _ (by omega), w3 235 d (by decide) (by omega), k2, w2]
    exact r5.2.1 d hd
  · rw [k2, w2]
    exact r5.2.2 p hp
theorem sl_217_135 {x : Int} : ∀ (m j : Nat) (s : gx_S), 96 < m + j → j ≤ 96 → ∃ u : gx_S, gm_217_135 m x j s = some (x, u) ∧ u.2 = s.2 ∧ (∀ k i, k ≠ 216 → u.1 k i = s.1 k i) ∧ ∀ i, u.1 216 i = if 52 + j ≤ i ∧ i < 148 then s.1 216 (i + 96) else s.1 216 i := by
  intro m
  induction m with
  | zero => intro j s h; omega
  | succ m ih =>
    intro j s h hj
    rw [gm_217_135, if_pos (by omega)]
    by_cases q : j = 96
    · rw [if_pos (by omega)]
      exact ⟨s, rfl, rfl, fun _ _ _ => rfl, fun i => by rw [if_neg (by omega)]⟩
    · have ce : ((j : Int) + 1) = ((j + 1 : Nat) : Int) := rfl
      have i1 : (52 + (j : Int)).toNat = 52 + j := by omega
      have i2 : (148 + (j : Int)).toNat = 148 + j := by omega
      rw [if_neg (by omega), if_pos (by omega), if_pos (by omega), i1, i2, ce]
      obtain ⟨u, u1, u2, u3, u4⟩ := ih (j + 1) (gw1 s 216 (52 + j) (s.1 216 (148 + j))) (by omega) (by omega)
      refine ⟨u, u1, u2, fun k i h1 => by rw [u3 k i h1, gw1_1, if_neg (fun t => h1 t.1)], fun i => ?_⟩
      rw [u4, gw1_1, gw1_1]
      by_cases z : i = 52 + j
      · rw [if_neg (show ¬ (52 + (j + 1) ≤ i ∧ i < 148) by omega), if_pos (show (216 : Nat) = 216 ∧ i = 52 + j from ⟨rfl, z⟩), if_pos (show 52 + j ≤ i ∧ i < 148 by omega), z, show 148 + j = 52 + j + 96 by omega]
      · by_cases z2 : 52 + (j + 1) ≤ i ∧ i < 148
        · rw [if_pos z2, if_neg (show ¬ ((216 : Nat) = 216 ∧ i + 96 = 52 + j) by omega), if_pos (show 52 + j ≤ i ∧ i < 148 by omega)]
        · rw [if_neg z2, if_neg (show ¬ ((216 : Nat) = 216 ∧ i = 52 + j) from fun t => z t.2), if_neg (show ¬ (52 + j ≤ i ∧ i < 148) by omega)]
theorem sl_217_107 {x : Int} : ∀ (m j : Nat) (s : gx_S), 27 < m + j → j ≤ 27 → ∃ u : gx_S, gm_217_107 m x j s = gm_217_135 100000 x 0 u ∧ u.2 = s.2 ∧ (∀ k i, k ≠ 216 → u.1 k i = s.1 k i) ∧ ∀ i, u.1 216 i = if 5 + j ≤ i ∧ i < 32 then s.1 245 (i - 5) else s.1 216 i := by
  intro m
  induction m with
  | zero => intro j s h; omega
  | succ m ih =>
    intro j s h hj
    rw [gm_217_107, if_pos (by omega)]
    by_cases q : j = 27
    · rw [if_pos (by omega)]
      exact ⟨s, rfl, rfl, fun _ _ _ => rfl, fun i => by rw [if_neg (by omega)]⟩
    · have ce : ((j : Int) + 1) = ((j + 1 : Nat) : Int) := rfl
      have i1 : (5 + (j : Int)).toNat = 5 + j := by omega
      have i2 : ((j : Int)).toNat = j := by omega
      rw [if_neg (by omega), if_pos (by omega), if_pos (by omega), i1, i2, ce]
      obtain ⟨u, u1, u2, u3, u4⟩ := ih (j + 1) (gw1 s 216 (5 + j) (s.1 245 j)) (by omega) (by omega)
      refine ⟨u, u1, u2, fun k i h1 => by rw [u3 k i h1, gw1_1, if_neg (fun t => h1 t.1)], fun i => ?_⟩
      rw [u4, gw1_1, gw1_1]
      by_cases z : i = 5 + j
      · rw [if_neg (show ¬ (5 + (j + 1) ≤ i ∧ i < 32) by omega), if_pos (show (216 : Nat) = 216 ∧ i = 5 + j from ⟨rfl, z⟩), if_pos (show 5 + j ≤ i ∧ i < 32 by omega), z, show 5 + j - 5 = j by omega]
      · by_cases z2 : 5 + (j + 1) ≤ i ∧ i < 32
        · rw [if_pos z2, if_neg (show ¬ ((245 : Nat) = 216 ∧ i - 5 = 5 + j) by omega), if_pos (show 5 + j ≤ i ∧ i < 32 by omega)]
        · rw [if_neg z2, if_neg (show ¬ ((216 : Nat) = 216 ∧ i = 5 + j) from fun t => z t.2), if_neg (show ¬ (5 + j ≤ i ∧ i < 32) by omega)]
/-- the map behind adopt -/
def fa (f : Nat → Int) (R C i : Nat) : Int := if 5 ≤ i ∧ i < 32 then cn f R C ((i - 5) / 9) ((i - 5) % 9) else if 52 ≤ i ∧ i < 148 then f (i + 96) else f i
theorem cn_r {f : Nat → Int} {R C g : Nat} (M : MP f R C) (h7 : f 2 = 7) (hg : g < 3) : (∀ z, z < 9 → 0 ≤ cn f R C g z) ∧ sg (fun z => cn f R C g z) 9 ≤ 89991 := by
  obtain ⟨v1, v2, v3⟩ := GV_r M h7 hg
  obtain ⟨l1, l2⟩ := LV_r M hg
  have m := (M.2.2.2.2.1 g hg).2
  have u0 := UN_r M hg
  have as0 : 0 ≤ ASf f R C g := by
    unfold ASf
    split <;> omega
  obtain ⟨p1, p2⟩ := PA_mv M h7 hg
  obtain ⟨t1, t2⟩ := TB_0 (md := f 3) M.2.2.1 p1 (fun _ => p2)
  refine ⟨fun z hz => ?_, ?_⟩
  · have := (v3 z hz).1
    unfold cn
    split <;> omega
  · have e1 : sg (fun z => cn f R C g z) 9 = sg (fun z => sg (fun x => GV f R C g x z) 8) 9 + sg (fun z => if z = 8 then ASf f R C g else 0) 9 := sg_add _ _ 9
    have e2 : sg (fun z => if z = 8 then ASf f R C g else 0) 9 = ASf f R C g := (sg_single (i := 8) (by omega) fun c _ hn => if_neg hn).trans (if_pos rfl)
    have e3 : sg (fun z => sg (fun x => GV f R C g x z) 8) 9 = sg (fun x => sg (fun z => GV f R C g x z) 9) 8 := (sg_swap (fun x z => GV f R C g x z) 9 8).symm
    have e4 : sg (fun x => sg (fun z => GV f R C g x z) 9) 8 ≤ sg (LV f R C g) 8 := sg_le fun x hx => by
      have a := t2 x hx
      have b := l1 x hx
      have e : sg (fun z => GV f R C g x z) 9 = sg (fun y => TB (f 3) (LV f R C g) (PMV f R C g) x y) 9 := rfl
      rw [e, a]
      split <;> omega
    omega
theorem MP_fa {f : Nat → Int} {R C : Nat} (M : MP f R C) (h7 : f 2 = 7) : MP (fa f R C) R C := by
  obtain ⟨m1, m2, m3, m4, m5, m6, m7, m8, m10⟩ := id M
  have o : ∀ i, ¬ (5 ≤ i ∧ i < 32) → ¬ (52 ≤ i ∧ i < 148) → fa f R C i = f i := fun i h1 h2 => by
    unfold fa
    rw [if_neg h1, if_neg h2]
  have c : ∀ g z, g < 3 → z < 9 → fa f R C (5 + 9 * g + z) = cn f R C g z := fun g z hg hz => by
    unfold fa
    rw [if_pos (by omega), show (5 + 9 * g + z - 5) / 9 = g by omega, show (5 + 9 * g + z - 5) % 9 = z by omega]
  refine ⟨by rw [o 0 (by omega) (by omega), o 1 (by omega) (by omega)]; exact m1, by rw [o 2 (by omega) (by omega)]; exact m2, by rw [o 3 (by omega) (by omega)]; exact m3, by rw [o 4 (by omega) (by omega)]; exact m4, fun g hg => ⟨fun z hz => by rw [c g z hg hz]; exact (cn_r M h7 hg).1 z hz, ?_⟩, fun i hi => by rw [o _ (by omega) (by omega)]; exact m6 i hi, fun i hi => by rw [o _ (by omega) (by omega)]; exact m7 i hi, fun l hl b k hk => ?_, by rw [o 2 (by omega) (by omega)]; exact m10⟩
  · rw [sg_eq (g := fun z => cn f R C g z) fun z hz => c g z hg hz]
    exact (cn_r M h7 hg).2
  · have kk := (kC m1.2.2.1 m1.2.2.2 hk (show 2 < 3 by omega)).1
    by_cases e : l = 0
    · rw [e]
      have a := m8 1 (by omega) (by rw [h7]; rfl) k hk
      rw [if_neg (by omega)] at a ⊢
      have z : fa f R C (52 + 96 * 0 + 12 * (k / C) + k % C) = f (52 + 96 * 1 + 12 * (k / C) + k % C) := by
        unfold fa
        rw [if_neg (by omega), if_pos (by omega), show 52 + 96 * 0 + 12 * (k / C) + k % C + 96 = 52 + 96 * 1 + 12 * (k / C) + k % C by omega]
      rw [z]
      exact a
    · rw [o _ (by omega) (by omega)]
      exact m8 l hl (by rw [o 2 (by omega) (by omega)] at b; exact b) k hk
theorem inv_adopt {s : gx_S} (h : INV s) : two s gm_93 gm_217 := by
  obtain ⟨f, R, C, n, pf, L, tb, c, r, v⟩ := id h
  have e7 : s.1 1 6 = f 2 := c.1.2.2.1
  have c57 := sp_57 (s := s) (a := 1) (by decide +kernel) (by rw [e7]; exact v.1.2.1)
  have c50 : ∀ t : gx_S, t.1 216 = f → gm_150 t = some (decide (f 2 = 7), t) := fun t ht => by
    have := sp_150 (s := t) (by rw [ht]; exact v.1.2.1)
    rw [ht] at this
    exact this
  unfold two gm_93 gm_217
  rw [c57, Option.bind_some, e7]
  by_cases h7 : f 2 = 7
  · rw [if_pos (fun q => (gbD s).mp q h7)]
    obtain ⟨a, a1, a2, a3, a4⟩ := sl_93_14 v.1 h7 100000 0 s (by omega) (by omega) c fun g hg => absurd hg (by omega)
    have a1 : gm_93_14 100000 0 s = _ := a1
    obtain ⟨u, u1, u2, u3, u4, u5⟩ := act_pre2 a2 (RV_KC a3 r) v
    obtain ⟨b, b1, b2, b3, b4⟩ := sl_93_44 (f := f) (R := R) (C := C) 100000 0 0 u (by omega) (by omega) fun g hg => MV_o (fun k i q1 q2 q3 => u4 k i (by omega) (by omega)) (a4 g hg)
    have b1 : gm_93_44 100000 0 0 u = some (0 + (sg (inz f R C) 3 - sg (inz f R C) 0), gcp b 2 96 2 0 96) := b1
    obtain ⟨u', hu'⟩ : ∃ u', u' = gcp b 2 96 2 0 96 := ⟨_, rfl⟩
    rw [← hu'] at b1
    have k6 : ∀ k j, 6 ≤ k → u'.1 k j = u.1 k j := fun k j q => by
      rw [hu', gcp_1, if_neg (by omega), b3 k j (by omega)]
    have k2 : u'.2 = u.2 := by rw [hu']; exact b2
    obtain ⟨S, eu', _⟩ := u5 u' u' k6 k2 (KRw_rf u')
    obtain ⟨t, t1, t2, t3⟩ := sl_217_13 (f := f) (R := R) (C := C) v.1 h7 100000 0 0 u' (by omega) (by omega) eu' S fun g z hg => absurd hg (by omega)
    have t1 : gm_217_13 100000 0 0 u' = ((gm_132 t).bind fun q4 => gm_217_107 100000 (0 + (sg (inz f R C) 3 - sg (inz f R C) 0)) 0 q4) := t1
    obtain ⟨_, _, w, w1, w2, w3, w4⟩ := u5 u' t k6 k2 t2
    obtain ⟨d, d1, d2, d3, d4⟩ := sl_217_107 (x := 0 + (sg (inz f R C) 3 - sg (inz f R C) 0)) 100000 0 w (by omega) (by omega)
    have d1 : gm_217_107 100000 (0 + (sg (inz f R C) 3 - sg (inz f R C) 0)) 0 w = _ := d1
    obtain ⟨e, e1, e2, e3, e4⟩ := sl_217_135 (x := 0 + (sg (inz f R C) 3 - sg (inz f R C) 0)) 100000 0 d (by omega) (by omega)
    have e1 : gm_217_135 100000 (0 + (sg (inz f R C) 3 - sg (inz f R C) 0)) 0 d = _ := e1
    refine ⟨0 + (sg (inz f R C) 3 - sg (inz f R C) 0), u', e, by rw [a1, u1, Option.bind_some, b1], ?_, w4 e (fa f R C) R C (fun k j q => by rw [e3 k j q, d3 k j q]) (by rw [e2, d2]) (MP_fa v.1 h7) ?_ fun i hi => ?_⟩
    · rw [c50 u' eu', Option.bind_some, if_pos (fun q => (gbD u').mp q h7)]
      show gm_217_13 100000 0 0 u' = _
      rw [t1, w1, Option.bind_some, d1, e1]
    · obtain ⟨m1, m2, m3, m4, m5, m6, m7, m8, m9⟩ := u2
      have o : ∀ i, ¬ (5 ≤ i ∧ i < 32) → ¬ (52 ≤ i ∧ i < 148) → fa f R C i = f i := fun i h1 h2 => by
        unfold fa
        rw [if_neg h1, if_neg h2]
      have uk : ∀ k i, k ≠ 2 → k ≠ 3 → u'.1 k i = u.1 k i := fun k i q1 q2 => by rw [hu', gcp_1, if_neg (by omega), b3 k i q2]
      refine ⟨by rw [uk _ _ (by omega) (by omega), o 0 (by omega) (by omega)]; exact m1, by rw [uk _ _ (by omega) (by omega), o 1 (by omega) (by omega)]; exact m2, by rw [uk _ _ (by omega) (by omega), o 2 (by omega) (by omega)]; exact m3, by rw [uk _ _ (by omega) (by omega), o 3 (by omega) (by omega)]; exact m4, by rw [uk _ _ (by omega) (by omega), o 4 (by omega) (by omega)]; exact m5, fun i hi => ?_, fun i hi => by rw [uk _ _ (by omega) (by omega), o _ (by omega) (by omega)]; exact m7 i hi, fun i hi => by rw [uk _ _ (by omega) (by omega), o _ (by omega) (by omega)]; exact m8 i hi, fun l hl bb k hk => ?_⟩
      · rw [show (1 : Nat) + 2 = 3 from rfl, hu', gcp_1, if_neg (by omega), b4, if_pos (by omega)]
        unfold fa
        rw [if_pos (by omega), show 5 + i - 5 = i by omega]
      · have kk := (kC v.1.1.2.2.1 v.1.1.2.2.2 hk (show 2 < 3 by omega))
        rw [show (1 : Nat) + 1 = 2 from rfl] at m9 ⊢
        rw [hu', gcp_1, b3 2 _ (by omega), b3 2 _ (by omega)]
        by_cases z : l = 0
        · have zz : fa f R C (52 + 96 * 0 + 12 * (k / C) + k % C) = f (52 + 96 * 1 + 12 * (k / C) + k % C) := by
            unfold fa
            rw [if_neg (by omega), if_pos (by omega), show 52 + 96 * 0 + 12 * (k / C) + k % C + 96 = 52 + 96 * 1 + 12 * (k / C) + k % C by omega]
          rw [z, if_pos (by omega), zz, show 96 + (96 * 0 + k - 0) = 96 * 1 + k by omega]
          exact m9 1 (by omega) (by rw [h7]; rfl) k hk
        · rw [if_neg (by omega), o _ (by omega) (by omega)]
          exact m9 l hl (by rw [o 2 (by omega) (by omega)] at bb; exact bb) k hk
    · rw [e4, d4, d4]
      unfold fa
      by_cases z1 : 5 ≤ i ∧ i < 32
      · rw [if_neg (by omega), if_pos (by omega), if_pos z1, w3 245 _ (by decide) (by omega)]
        have := t3 ((i - 5) / 9) ((i - 5) % 9) (by omega) (by omega)
        rw [show 9 * ((i - 5) / 9) + (i - 5) % 9 = i - 5 by omega] at this
        exact this
      · have ef : (if 5 ≤ i ∧ i < 32 then cn f R C ((i - 5) / 9) ((i - 5) % 9) else if 52 ≤ i ∧ i < 148 then f (i + 96) else f i) = if 52 ≤ i ∧ i < 148 then f (i + 96) else f i := if_neg z1
        rw [ef]
        by_cases z2 : 52 ≤ i ∧ i < 148
        · rw [if_pos (show 52 + 0 ≤ i ∧ i < 148 by omega), if_neg (show ¬ (5 + 0 ≤ i + 96 ∧ i + 96 < 32) by omega), w2, if_pos z2]
        · rw [if_neg (show ¬ (52 + 0 ≤ i ∧ i < 148) by omega), if_neg (show ¬ (5 + 0 ≤ i ∧ i < 32) by omega), w2, if_neg z2]
  · rw [if_neg (fun q => q ((gbD s).mpr h7))]
    refine ⟨-1, s, s, rfl, ?_, h⟩
    rw [c50 s r.1, Option.bind_some, if_neg (fun q => q ((gbD s).mpr h7))]
end
section
/-! TEXTS of counts: signs, numbers -/
def sgn (tb : Nat → Int) (L p : Nat) : Int := if p < L then tb p else -1
def dig (x : Int) : Prop := 48 ≤ x ∧ x ≤ 57
def mn (x : Int) : Int := if x < 10000 then x else 10000
/-- the number of the digits from p on, and where it ends -/
def nm (tb : Nat → Int) (L : Nat) : Nat → Int → Nat → Int × Nat
  | 0, v, p => (v, p)
  | r + 1, v, p => if 48 ≤ sgn tb L p ∧ sgn tb L p ≤ 57 then nm tb L r (mn (10 * v + sgn tb L p - 48)) (p + 1) else (v, p)
/-- the class's tape; the reference's -/
def TC (s : gx_S) (L : Nat) (tb : Nat → Int) : Prop := L ≤ 200 ∧ s.1 14 1 = L ∧ ∀ i, i < L → s.1 15 i = tb i ∧ 0 ≤ tb i ∧ tb i ≤ 255
def TF (s : gx_S) (L : Nat) (tb : Nat → Int) : Prop := L ≤ 200 ∧ s.1 215 4 = L ∧ ∀ i, i < L → (Int32.ofInt (s.1 218 i) &&& Int32.ofInt 255).toInt = tb i ∧ 0 ≤ tb i ∧ tb i ≤ 255
theorem TC_o {s u : gx_S} {L : Nat} {tb : Nat → Int} (h1 : u.1 14 1 = s.1 14 1) (h2 : ∀ i, u.1 15 i = s.1 15 i) (h : TC s L tb) : TC u L tb := ⟨h.1, h1.trans h.2.1, fun i hi => by rw [h2]; exact h.2.2 i hi⟩
theorem TF_o {s u : gx_S} {L : Nat} {tb : Nat → Int} (h1 : u.1 215 4 = s.1 215 4) (h2 : ∀ i, u.1 218 i = s.1 218 i) (h : TF s L tb) : TF u L tb := ⟨h.1, h1.trans h.2.1, fun i hi => by rw [h2]; exact h.2.2 i hi⟩
theorem sgn_r {s : gx_S} {L : Nat} {tb : Nat → Int} (h : TC s L tb) (p : Nat) : -1 ≤ sgn tb L p ∧ sgn tb L p ≤ 255 := by
  unfold sgn
  by_cases q : p < L
  · rw [if_pos q]
    have := h.2.2 p q
    omega
  · rw [if_neg q]
    omega
theorem sgn_rf {s : gx_S} {L : Nat} {tb : Nat → Int} (h : TF s L tb) (p : Nat) : -1 ≤ sgn tb L p ∧ sgn tb L p ≤ 255 := by
  unfold sgn
  by_cases q : p < L
  · rw [if_pos q]
    have := h.2.2 p q
    omega
  · rw [if_neg q]
    omega
theorem sp_83 {s : gx_S} {L p : Nat} {tb : Nat → Int} (h : TC s L tb) (hp : p < 1000) : gm_83 p s = some (sgn tb L p, s) := by
  obtain ⟨h1, h2, h3⟩ := h
  unfold gm_83 sgn
  rw [if_pos (by omega), if_neg (by omega), h2, if_pos (by omega)]
  by_cases q : p < L
  · rw [if_neg (by omega), if_pos (by omega), if_pos q, show ((p : Int)).toNat = p by omega, (h3 p q).1]
  · rw [if_pos (by omega), if_neg q]
theorem sp_137 {s : gx_S} {L p : Nat} {tb : Nat → Int} (h : TF s L tb) (hp : p < 1000) (e : s.1 215 5 = p) : gm_137 s = some (sgn tb L p, s) := by
  obtain ⟨h1, h2, h3⟩ := h
  unfold gm_137 sgn
  rw [e, if_pos (by omega), h2, if_pos (by omega)]
  by_cases q : p < L
  · rw [if_neg (by omega), if_pos (by omega), if_pos q, show ((p : Int)).toNat = p by omega, (h3 p q).1]
  · rw [if_pos (by omega), if_neg q]
theorem sp_138 {s : gx_S} (h : i32 (s.1 215 6)) : gm_138 s = some (decide (s.1 215 6 = -1), s) := by
  unfold i32 at h
  unfold gm_138
  rw [if_pos h]
  by_cases q : s.1 215 6 = -1
  · rw [if_neg (fun t => t q), decide_eq_true q]
  · rw [if_pos q, decide_eq_false q]
theorem sp_139 {s : gx_S} {a b : Int} (h : i32 (s.1 215 6)) : gm_139 a b s = some (if s.1 215 6 = -1 then gw1 s 215 6 (8 * b + a) else s) := by
  unfold gm_139
  rw [sp_138 h, Option.bind_some]
  by_cases q : s.1 215 6 = -1
  · rw [if_neg (fun t => (gbD s).mp t q), if_pos q]
  · rw [if_pos ((gbD s).mpr q), if_neg q]
theorem nmr {tb : Nat → Int} {L : Nat} (hr : ∀ p, -1 ≤ sgn tb L p) : ∀ (r : Nat) (v : Int) (p : Nat), 0 ≤ v → v ≤ 10000 → p ≤ L → (0 ≤ (nm tb L r v p).1 ∧ (nm tb L r v p).1 ≤ 10000) ∧ p ≤ (nm tb L r v p).2 ∧ (nm tb L r v p).2 ≤ L ∧ (dig (sgn tb L p) → 0 < r → p < (nm tb L r v p).2)
  | 0, v, p, h1, h2, h3 => ⟨⟨h1, h2⟩, Nat.le_refl p, h3, fun _ h => absurd h (by omega)⟩
  | r + 1, v, p, h1, h2, h3 => by
    have e : nm tb L (r + 1) v p = if 48 ≤ sgn tb L p ∧ sgn tb L p ≤ 57 then nm tb L r (mn (10 * v + sgn tb L p - 48)) (p + 1) else (v, p) := rfl
    rw [e]
    by_cases q : 48 ≤ sgn tb L p ∧ sgn tb L p ≤ 57
    · have hp : p < L := Classical.byContradiction fun h => by
        have : sgn tb L p = -1 := if_neg h
        omega
      have m1 : 0 ≤ mn (10 * v + sgn tb L p - 48) ∧ mn (10 * v + sgn tb L p - 48) ≤ 10000 := by
        unfold mn
        split <;> omega
      obtain ⟨a1, a2, a3, a4⟩ := nmr hr r _ (p + 1) m1.1 m1.2 (by omega)
      rw [if_pos q]
      exact ⟨a1, by omega, a3, fun _ _ => by omega⟩
    · rw [if_neg q]
      exact ⟨⟨h1, h2⟩, Nat.le_refl p, h3, fun h => absurd h q⟩
theorem sp_8 (s : gx_S) {x : Int} (h : i32 x) : gm_8 x s = some (decide (48 ≤ x ∧ x ≤ 57), s) := by
  unfold i32 at h
  unfold gm_8
  rw [if_pos h]
  by_cases a : x < 48
  · rw [if_pos a, decide_eq_false (by omega)]
  · rw [if_neg a]
    by_cases b : 57 < x
    · rw [if_pos b, decide_eq_false (by omega)]
    · rw [if_neg b, decide_eq_true (by omega)]
/-- the place alone changes -/
def P2 (s u : gx_S) : Prop := u.2 = s.2 ∧ ∀ k j, ¬ (k = 60 ∧ j = 2) → u.1 k j = s.1 k j
theorem sl_6 {L : Nat} {tb : Nat → Int} : ∀ (r p n : Nat) (v : Int) (s : gx_S), L ≤ p + r → p ≤ L → r < n → 0 ≤ v → v ≤ 10000 → TC s L tb → s.1 60 2 = p → ∃ u : gx_S, gm_6_2 n v s = some ((nm tb L r v p).1, u) ∧ u.1 60 2 = (nm tb L r v p).2 ∧ P2 s u := by
  intro r
  induction r with
  | zero =>
    intro p n v s h1 h2 h3 h4 h5 T e
    obtain ⟨n, rfl⟩ : ∃ n', n = n' + 1 := ⟨n - 1, by omega⟩
    have hL := T.1
    refine ⟨s, ?_, e, rfl, fun _ _ _ => rfl⟩
    rw [gm_6_2, e, T.2.1, if_pos (by omega), if_pos (by omega), if_pos (by omega)]
    rfl
  | succ r ih =>
    intro p n v s h1 h2 h3 h4 h5 T e
    obtain ⟨n, rfl⟩ : ∃ n', n = n' + 1 := ⟨n - 1, by omega⟩
    have hL := T.1
    have sr := sgn_r T p
    have en : nm tb L (r + 1) v p = if 48 ≤ sgn tb L p ∧ sgn tb L p ≤ 57 then nm tb L r (mn (10 * v + sgn tb L p - 48)) (p + 1) else (v, p) := rfl
    rw [gm_6_2, e, T.2.1, if_pos (by omega), if_pos (by omega), en]
    by_cases q0 : p < L
    · rw [if_neg (by omega), sp_83 T (by omega), Option.bind_some]
      show ∃ u : gx_S, ((gm_8 (sgn tb L p) s).bind _) = _ ∧ _
      rw [sp_8 s (by unfold i32; omega), Option.bind_some]
      by_cases q : 48 ≤ sgn tb L p ∧ sgn tb L p ≤ 57
      · have ce : ((p : Int) + 1) = ((p + 1 : Nat) : Int) := rfl
        rw [if_neg (fun t => (gbD s).mp t q), if_pos q]
        show ∃ u : gx_S, ((gm_83 (s.1 60 2) s).bind fun q10 => if (-2147483648 ≤ (((v * 10) + q10.1) - 48) ∧ (((v * 10) + q10.1) - 48) ≤ 2147483647) then (gm_6_2 n (if (((v * 10) + q10.1) - 48) < 10000 then (((v * 10) + q10.1) - 48) else 10000) (gw1 q10.2 60 2 ((q10.2.1 60 2) + 1))) else none) = _ ∧ _
        rw [e, sp_83 T (by omega), Option.bind_some]
        show ∃ u : gx_S, (if (-2147483648 ≤ (((v * 10) + sgn tb L p) - 48) ∧ (((v * 10) + sgn tb L p) - 48) ≤ 2147483647) then (gm_6_2 n (if (((v * 10) + sgn tb L p) - 48) < 10000 then (((v * 10) + sgn tb L p) - 48) else 10000) (gw1 s 60 2 ((s.1 60 2) + 1))) else none) = _ ∧ _
        have em : (if (((v * 10) + sgn tb L p) - 48) < 10000 then (((v * 10) + sgn tb L p) - 48) else 10000) = mn (10 * v + sgn tb L p - 48) := by
          unfold mn
          rw [show v * 10 = 10 * v by omega]
        have m1 : 0 ≤ mn (10 * v + sgn tb L p - 48) ∧ mn (10 * v + sgn tb L p - 48) ≤ 10000 := by
          unfold mn
          split <;> omega
        rw [if_pos (by omega), em, e, ce]
        have o : ∀ k j, ¬ (k = 60 ∧ j = 2) → (gw1 s 60 2 ((p + 1 : Nat) : Int)).1 k j = s.1 k j := fun k j q => by rw [gw1_1, if_neg q]
        obtain ⟨u, u1, u2, u3⟩ := ih (p + 1) n (mn (10 * v + sgn tb L p - 48)) (gw1 s 60 2 ((p + 1 : Nat) : Int)) (by omega) (by omega) (by omega) m1.1 m1.2 (TC_o (o _ _ (by omega)) (fun i => o _ _ (by omega)) T) (by rw [gw1_1, if_pos ⟨rfl, rfl⟩])
        exact ⟨u, u1, u2, u3.1, fun k j q => (u3.2 k j q).trans (o k j q)⟩
      · rw [if_pos ((gbD s).mpr q), if_neg q]
        exact ⟨s, rfl, e, rfl, fun _ _ _ => rfl⟩
    · have z : sgn tb L p = -1 := if_neg q0
      rw [if_pos (by omega), if_neg (by rw [z]; omega)]
      exact ⟨s, rfl, e, rfl, fun _ _ _ => rfl⟩
/-- the reference's place alone changes -/
def P5 (s u : gx_S) : Prop := u.2 = s.2 ∧ ∀ k j, ¬ (k = 215 ∧ j = 5) → u.1 k j = s.1 k j
theorem sl_146 {L : Nat} {tb : Nat → Int} {sl b : Int} : ∀ (r p n : Nat) (v : Int) (s : gx_S), L ≤ p + r → p ≤ L → r < n → 0 ≤ v → v ≤ 10000 → TF s L tb → s.1 215 5 = p → s.1 215 6 = -1 → ∃ u : gx_S, gm_146_164 n sl b v s = gm_146_222 sl b (nm tb L r v p).1 u ∧ u.1 215 5 = (nm tb L r v p).2 ∧ P5 s u := by
  intro r
  induction r with
  | zero =>
    intro p n v s h1 h2 h3 h4 h5 T e e6
    obtain ⟨n, rfl⟩ : ∃ n', n = n' + 1 := ⟨n - 1, by omega⟩
    have hL := T.1
    have z : sgn tb L p = -1 := if_neg (by omega)
    refine ⟨s, ?_, e, rfl, fun _ _ _ => rfl⟩
    rw [gm_146_164, sp_138 (by rw [e6]; unfold i32; omega), Option.bind_some, if_neg (fun t => (gbD s).mp t e6)]
    show ((gm_137 s).bind _) = _
    rw [sp_137 T (by omega) e, Option.bind_some, z, if_pos (show (-2147483648 : Int) ≤ -1 ∧ (-1 : Int) ≤ 2147483647 by decide)]
    show ((gm_130 (-1) 48 57 s).bind _) = _
    rw [in_ s (by unfold i32; omega) (by omega) (by omega), Option.bind_some, if_pos ((gbD s).mpr (by omega))]
    rfl
  | succ r ih =>
    intro p n v s h1 h2 h3 h4 h5 T e e6
    obtain ⟨n, rfl⟩ : ∃ n', n = n' + 1 := ⟨n - 1, by omega⟩
    have hL := T.1
    have sr := sgn_rf T p
    have en : nm tb L (r + 1) v p = if 48 ≤ sgn tb L p ∧ sgn tb L p ≤ 57 then nm tb L r (mn (10 * v + sgn tb L p - 48)) (p + 1) else (v, p) := rfl
    rw [gm_146_164, sp_138 (by rw [e6]; unfold i32; omega), Option.bind_some, if_neg (fun t => (gbD s).mp t e6), en]
    show ∃ u : gx_S, ((gm_137 s).bind _) = _ ∧ _
    rw [sp_137 T (by omega) e, Option.bind_some, if_pos (by omega)]
    show ∃ u : gx_S, ((gm_130 (sgn tb L p) 48 57 s).bind _) = _ ∧ _
    rw [in_ s (by unfold i32; omega) (by omega) (by omega), Option.bind_some]
    by_cases q : 48 ≤ sgn tb L p ∧ sgn tb L p ≤ 57
    · have hp : p < L := Classical.byContradiction fun h => by
        have : sgn tb L p = -1 := if_neg h
        omega
      have ce : ((p : Int) + 1) = ((p + 1 : Nat) : Int) := rfl
      rw [if_neg (fun t => (gbD s).mp t q), if_pos q]
      show ∃ u : gx_S, ((gm_137 s).bind fun q11 => if (-2147483648 ≤ (((10 * v) + q11.1) - 48) ∧ (((10 * v) + q11.1) - 48) ≤ 2147483647) then (gm_146_164 n sl b (if (((10 * v) + q11.1) - 48) < 10000 then (((10 * v) + q11.1) - 48) else 10000) (gw1 q11.2 215 5 ((q11.2.1 215 5) + 1))) else none) = _ ∧ _
      rw [sp_137 T (by omega) e, Option.bind_some]
      show ∃ u : gx_S, (if (-2147483648 ≤ (((10 * v) + sgn tb L p) - 48) ∧ (((10 * v) + sgn tb L p) - 48) ≤ 2147483647) then (gm_146_164 n sl b (mn (10 * v + sgn tb L p - 48)) (gw1 s 215 5 ((s.1 215 5) + 1))) else none) = _ ∧ _
      have m1 : 0 ≤ mn (10 * v + sgn tb L p - 48) ∧ mn (10 * v + sgn tb L p - 48) ≤ 10000 := by
        unfold mn
        split <;> omega
      rw [if_pos (by omega), e, ce]
      have o : ∀ k j, ¬ (k = 215 ∧ j = 5) → (gw1 s 215 5 ((p + 1 : Nat) : Int)).1 k j = s.1 k j := fun k j q => by rw [gw1_1, if_neg q]
      obtain ⟨u, u1, u2, u3⟩ := ih (p + 1) n (mn (10 * v + sgn tb L p - 48)) (gw1 s 215 5 ((p + 1 : Nat) : Int)) (by omega) (by omega) (by omega) m1.1 m1.2 (TF_o (o _ _ (by omega)) (fun i => o _ _ (by omega)) T) (by rw [gw1_1, if_pos ⟨rfl, rfl⟩]) (by rw [o _ _ (by omega)]; exact e6)
      exact ⟨u, u1, u2, u3.1, fun k j q => (u3.2 k j q).trans (o k j q)⟩
    · rw [if_pos ((gbD s).mpr q), if_neg q]
      exact ⟨s, rfl, e, rfl, fun _ _ _ => rfl⟩
end
section
/-! TEXTS of counts: the class's reading -/
theorem i32r (x : Int32) : -2147483648 ≤ x.toInt ∧ x.toInt ≤ 2147483647 := by
  have a := Int32.le_toInt x
  have b := Int32.toInt_lt x
  omega
def sl (x : Int) : Int := if x = 63 then 8 else if 97 ≤ x ∧ x ≤ 104 then x - 97 else -1
theorem sl_r (x : Int) : -1 ≤ sl x ∧ sl x ≤ 8 := by
  unfold sl
  split
  · omega
  · split <;> omega
def bq (T x : Int) : Int := ((Int32.ofInt (((Int32.ofInt T >>> (Int32.ofInt x &&& 31))).toInt) &&& Int32.ofInt 1)).toInt
def bset (T x : Int) : Int := ((Int32.ofInt T ||| Int32.ofInt (((Int32.ofInt 1 <<< (Int32.ofInt x &&& 31))).toInt))).toInt
def uph (h : Nat → Int) (x v : Int) (j : Nat) : Int := if j = x.toNat then v else h j
/-- counts, from place p on: the fault (none: -1) and who is told -/
def cts (tb : Nat → Int) (L : Nat) : Nat → Int → Nat → (Nat → Int) → Int × (Nat → Int)
  | 0, _, _, h => (-1, h)
  | k + 1, T, p, h =>
    if sl (sgn tb L p) = -1 then (8 * p + 1, h) else
    if bq T (sl (sgn tb L p)) = 1 then (8 * p + 3, h) else
    if ¬ sgn tb L (p + 1) = 61 then (8 * ((p + 1 : Nat) : Int) + 1, h) else
    if ¬ (48 ≤ sgn tb L (p + 2) ∧ sgn tb L (p + 2) ≤ 57) then (8 * ((p + 2 : Nat) : Int) + 1, h) else
    if 9999 < (nm tb L 200 0 (p + 2)).1 then (8 * ((p + 2 : Nat) : Int) + 2, h) else
    if sgn tb L (nm tb L 200 0 (p + 2)).2 = 44 then cts tb L k (bset T (sl (sgn tb L p))) ((nm tb L 200 0 (p + 2)).2 + 1) (uph h (sl (sgn tb L p)) (nm tb L 200 0 (p + 2)).1) else
    if sgn tb L (nm tb L 200 0 (p + 2)).2 = -1 then (-1, uph h (sl (sgn tb L p)) (nm tb L 200 0 (p + 2)).1) else
    (8 * ((nm tb L 200 0 (p + 2)).2 : Int) + 1, h)
theorem sp_7 (s : gx_S) {x : Int} (h : i32 x) : gm_7 x s = some (sl x, s) := by
  unfold i32 at h
  unfold gm_7 sl
  rw [if_pos h]
  by_cases a : x = 63
  · rw [if_neg (fun t => t a), if_pos a]
  · rw [if_pos a, if_neg a]
    by_cases b : x < 97
    · rw [if_pos b, if_neg (by omega)]
    · rw [if_neg b]
      by_cases c : 104 < x
      · rw [if_pos c, if_neg (by omega)]
      · rw [if_neg c, if_pos (by omega)]
/-- the class's reader's cells alone change -/
def CT (s u : gx_S) : Prop := u.2 = s.2 ∧ ∀ k j, k ≠ 60 → k ≠ 61 → u.1 k j = s.1 k j
theorem CT_tr {s t u : gx_S} (a : CT s t) (b : CT t u) : CT s u := ⟨b.1.trans a.1, fun k j h1 h2 => (b.2 k j h1 h2).trans (a.2 k j h1 h2)⟩
theorem CT_TC {s u : gx_S} {L : Nat} {tb : Nat → Int} (a : CT s u) (T : TC s L tb) : TC u L tb := TC_o (a.2 _ _ (by omega) (by omega)) (fun i => a.2 _ _ (by omega) (by omega)) T
theorem sp_5 {L p : Nat} {tb : Nat → Int} {T : Int} {s : gx_S} (hT : TC s L tb) (hp : p ≤ L) (e2 : s.1 60 2 = p) (e1 : s.1 60 1 = T) : (sl (sgn tb L p) = -1 ∧ ∃ u, gm_5 s = some (1, u) ∧ u.1 60 2 = p ∧ CT s u) ∨ (¬ sl (sgn tb L p) = -1 ∧ bq T (sl (sgn tb L p)) = 1 ∧ ∃ u, gm_5 s = some (3, u) ∧ u.1 60 2 = p ∧ CT s u) ∨ (¬ sl (sgn tb L p) = -1 ∧ ¬ bq T (sl (sgn tb L p)) = 1 ∧ ¬ sgn tb L (p + 1) = 61 ∧ ∃ u, gm_5 s = some (1, u) ∧ u.1 60 2 = ((p + 1 : Nat) : Int) ∧ CT s u) ∨ (¬ sl (sgn tb L p) = -1 ∧ ¬ bq T (sl (sgn tb L p)) = 1 ∧ sgn tb L (p + 1) = 61 ∧ ¬ (48 ≤ sgn tb L (p + 2) ∧ sgn tb L (p + 2) ≤ 57) ∧ ∃ u, gm_5 s = some (1, u) ∧ u.1 60 2 = ((p + 2 : Nat) : Int) ∧ CT s u) ∨ (¬ sl (sgn tb L p) = -1 ∧ ¬ bq T (sl (sgn tb L p)) = 1 ∧ sgn tb L (p + 1) = 61 ∧ (48 ≤ sgn tb L (p + 2) ∧ sgn tb L (p + 2) ≤ 57) ∧ 9999 < (nm tb L 200 0 (p + 2)).1 ∧ ∃ u, gm_5 s = some (2, u) ∧ u.1 60 2 = ((p + 2 : Nat) : Int) ∧ CT s u) ∨ (¬ sl (sgn tb L p) = -1 ∧ ¬ bq T (sl (sgn tb L p)) = 1 ∧ sgn tb L (p + 1) = 61 ∧ (48 ≤ sgn tb L (p + 2) ∧ sgn tb L (p + 2) ≤ 57) ∧ ¬ 9999 < (nm tb L 200 0 (p + 2)).1 ∧ ∃ u, gm_5 s = some (0, u) ∧ u.1 60 2 = ((nm tb L 200 0 (p + 2)).2 : Int) ∧ u.1 60 1 = bset T (sl (sgn tb L p)) ∧ CT s u ∧ ∀ j, u.1 61 j = uph (s.1 61) (sl (sgn tb L p)) (nm tb L 200 0 (p + 2)).1 j) := by
  have hL := hT.1
  have sr := sgn_r hT
  have s0 := sr p
  have r0 := sl_r (sgn tb L p)
  have g0 : gm_83 (s.1 60 2) s = some (sgn tb L p, s) := by rw [e2]; exact sp_83 hT (by omega)
  have g7 := sp_7 s (x := sgn tb L p) (by unfold i32; omega)
  have br := i32r ((Int32.ofInt (((Int32.ofInt T >>> (Int32.ofInt (sl (sgn tb L p)) &&& 31))).toInt) &&& Int32.ofInt 1))
  have br : -2147483648 ≤ bq T (sl (sgn tb L p)) ∧ bq T (sl (sgn tb L p)) ≤ 2147483647 := br
  by_cases a : sl (sgn tb L p) = -1
  · refine .inl ⟨a, s, ?_, e2, rfl, fun _ _ _ _ => rfl⟩
    unfold gm_5
    rw [g0, Option.bind_some]
    show ((gm_7 (sgn tb L p) s).bind _) = _
    rw [g7, Option.bind_some, if_pos (by omega), if_neg (fun t => t a)]
  · by_cases b : bq T (sl (sgn tb L p)) = 1
    · refine .inr (.inl ⟨a, b, s, ?_, e2, rfl, fun _ _ _ _ => rfl⟩)
      unfold gm_5
      rw [g0, Option.bind_some]
      show ((gm_7 (sgn tb L p) s).bind _) = _
      rw [g7, Option.bind_some, if_pos (by omega), if_pos a]
      show (if (-2147483648 ≤ ((Int32.ofInt (((Int32.ofInt (s.1 60 1) >>> (Int32.ofInt (sl (sgn tb L p)) &&& 31))).toInt) &&& Int32.ofInt 1)).toInt ∧ ((Int32.ofInt (((Int32.ofInt (s.1 60 1) >>> (Int32.ofInt (sl (sgn tb L p)) &&& 31))).toInt) &&& Int32.ofInt 1)).toInt ≤ 2147483647) then (if ¬ ((Int32.ofInt (((Int32.ofInt (s.1 60 1) >>> (Int32.ofInt (sl (sgn tb L p)) &&& 31))).toInt) &&& Int32.ofInt 1)).toInt = 1 then _ else some (3, s)) else _) = _
      rw [e1]
      show (if (-2147483648 ≤ bq T (sl (sgn tb L p)) ∧ bq T (sl (sgn tb L p)) ≤ 2147483647) then (if ¬ bq T (sl (sgn tb L p)) = 1 then _ else some (3, s)) else _) = _
      rw [if_pos br, if_neg (fun t => t b)]
    · -- the slot is told, the place goes on
      obtain ⟨t, ht⟩ : ∃ t, t = gw1 (gw1 s 60 1 (bset T (sl (sgn tb L p)))) 60 2 ((p + 1 : Nat) : Int) := ⟨_, rfl⟩
      have to : ∀ k j, ¬ (k = 60 ∧ (j = 1 ∨ j = 2)) → t.1 k j = s.1 k j := fun k j q => by rw [ht, gw1_1, if_neg (by omega), gw1_1, if_neg (by omega)]
      have t1 : t.1 60 1 = bset T (sl (sgn tb L p)) := by rw [ht, gw1_1, if_neg (by omega), gw1_1, if_pos ⟨rfl, rfl⟩]
      have t2 : t.1 60 2 = ((p + 1 : Nat) : Int) := by rw [ht, gw1_1, if_pos ⟨rfl, rfl⟩]
      have tC : CT s t := ⟨by rw [ht]; rfl, fun k j h1 h2 => to k j (by omega)⟩
      have tT := CT_TC tC hT
      obtain ⟨w, hw⟩ : ∃ w, w = gw1 t 60 2 ((p + 2 : Nat) : Int) := ⟨_, rfl⟩
      have wo : ∀ k j, ¬ (k = 60 ∧ j = 2) → w.1 k j = t.1 k j := fun k j q => by rw [hw, gw1_1, if_neg q]
      have w2 : w.1 60 2 = ((p + 2 : Nat) : Int) := by rw [hw, gw1_1, if_pos ⟨rfl, rfl⟩]
      have wC : CT s w := CT_tr tC ⟨by rw [hw]; rfl, fun k j h1 h2 => wo k j (by omega)⟩
      have wT := CT_TC wC hT
      have s1 := sr (p + 1)
      have s2 := sr (p + 2)
      have sl0 : 0 ≤ sl (sgn tb L p) ∧ sl (sgn tb L p) < 9 := by omega
      have main : gm_5 s = (if sgn tb L (p + 1) = 61 then (if 48 ≤ sgn tb L (p + 2) ∧ sgn tb L (p + 2) ≤ 57 then ((gm_6 w).bind fun q45 => if (-2147483648 ≤ ((gw1 q45.2 61 (sl (sgn tb L p)).toNat q45.1).1 61 (sl (sgn tb L p)).toNat) ∧ ((gw1 q45.2 61 (sl (sgn tb L p)).toNat q45.1).1 61 (sl (sgn tb L p)).toNat) ≤ 2147483647) then (if ((gw1 q45.2 61 (sl (sgn tb L p)).toNat q45.1).1 61 (sl (sgn tb L p)).toNat) ≤ 9999 then some (0, gw1 q45.2 61 (sl (sgn tb L p)).toNat q45.1) else some (2, gw1 (gw1 q45.2 61 (sl (sgn tb L p)).toNat q45.1) 60 2 (w.1 60 2))) else none) else some (1, w)) else some (1, t)) := by
        unfold gm_5
        rw [g0, Option.bind_some]
        show ((gm_7 (sgn tb L p) s).bind _) = _
        rw [g7, Option.bind_some, if_pos (by omega), if_pos a]
        have ee : ((Int32.ofInt (((Int32.ofInt (s.1 60 1) >>> (Int32.ofInt (sl (sgn tb L p), s).1 &&& 31))).toInt) &&& Int32.ofInt 1)).toInt = bq T (sl (sgn tb L p)) := by rw [e1]; rfl
        have et : gw1 (gw1 (sl (sgn tb L p), s).2 60 1 (((Int32.ofInt ((sl (sgn tb L p), s).2.1 60 1) ||| Int32.ofInt (((Int32.ofInt 1 <<< (Int32.ofInt (sl (sgn tb L p), s).1 &&& 31))).toInt))).toInt)) 60 2 (((gw1 (sl (sgn tb L p), s).2 60 1 (((Int32.ofInt ((sl (sgn tb L p), s).2.1 60 1) ||| Int32.ofInt (((Int32.ofInt 1 <<< (Int32.ofInt (sl (sgn tb L p), s).1 &&& 31))).toInt))).toInt)).1 60 2) + 1) = t := by
          show gw1 (gw1 s 60 1 (((Int32.ofInt (s.1 60 1) ||| Int32.ofInt (((Int32.ofInt 1 <<< (Int32.ofInt (sl (sgn tb L p)) &&& 31))).toInt))).toInt)) 60 2 (((gw1 s 60 1 (((Int32.ofInt (s.1 60 1) ||| Int32.ofInt (((Int32.ofInt 1 <<< (Int32.ofInt (sl (sgn tb L p)) &&& 31))).toInt))).toInt)).1 60 2) + 1) = t
          rw [gw1_1, if_neg (by omega), e2, e1, ht]
          rfl
        rw [ee, if_pos br, if_pos b, et, t2, sp_83 tT (by omega), Option.bind_some]
        show (if (-2147483648 ≤ sgn tb L (p + 1) ∧ sgn tb L (p + 1) ≤ 2147483647) then (if sgn tb L (p + 1) = 61 then ((gm_83 ((gw1 t 60 2 ((t.1 60 2) + 1)).1 60 2) (gw1 t 60 2 ((t.1 60 2) + 1))).bind _) else some (1, t)) else none) = _
        rw [if_pos (by omega)]
        by_cases c : sgn tb L (p + 1) = 61
        · have ew : gw1 t 60 2 ((t.1 60 2) + 1) = w := by
            rw [t2, hw]
            rfl
          rw [if_pos c, if_pos c, ew, w2, sp_83 wT (by omega), Option.bind_some]
          show ((gm_8 (sgn tb L (p + 2)) w).bind _) = _
          rw [sp_8 w (by unfold i32; omega), Option.bind_some]
          by_cases d : 48 ≤ sgn tb L (p + 2) ∧ sgn tb L (p + 2) ≤ 57
          · rw [if_pos (fun q => (gbD w).mp q d), if_pos d]
            congr 1
            funext q45
            rw [if_pos (show 0 ≤ (sl (sgn tb L p), s).1 ∧ (sl (sgn tb L p), s).1 < 9 from sl0)]
            simp only [w2]
          · rw [if_neg (fun q => q ((gbD w).mpr d)), if_neg d]
        · rw [if_neg c, if_neg c]
      by_cases c : sgn tb L (p + 1) = 61
      · by_cases d : 48 ≤ sgn tb L (p + 2) ∧ sgn tb L (p + 2) ≤ 57
        · have hp2 : p + 2 ≤ L := Nat.le_of_not_lt fun h => by
            have : sgn tb L (p + 2) = -1 := if_neg (by omega)
            omega
          obtain ⟨⟨n1, n2⟩, n3, n4, n5⟩ := nmr (fun q => (sr q).1) 200 0 (p + 2) (by omega) (by omega) hp2
          obtain ⟨u, u1, u2, u3, u4⟩ := sl_6 (tb := tb) 200 (p + 2) 100000 0 w (by omega) hp2 (by omega) (by omega) (by omega) wT w2
          have u1 : gm_6 w = some ((nm tb L 200 0 (p + 2)).1, u) := u1
          have x1 : (gw1 u 61 (sl (sgn tb L p)).toNat (nm tb L 200 0 (p + 2)).1).1 61 (sl (sgn tb L p)).toNat = (nm tb L 200 0 (p + 2)).1 := by rw [gw1_1, if_pos ⟨rfl, rfl⟩]
          have uC : CT s u := CT_tr wC ⟨u3, fun k j h1 h2 => u4 k j (by omega)⟩
          have main2 : gm_5 s = if (nm tb L 200 0 (p + 2)).1 ≤ 9999 then some (0, gw1 u 61 (sl (sgn tb L p)).toNat (nm tb L 200 0 (p + 2)).1) else some (2, gw1 (gw1 u 61 (sl (sgn tb L p)).toNat (nm tb L 200 0 (p + 2)).1) 60 2 (w.1 60 2)) := by
            rw [main, if_pos c, if_pos d, u1, Option.bind_some]
            show (if (-2147483648 ≤ ((gw1 u 61 (sl (sgn tb L p)).toNat (nm tb L 200 0 (p + 2)).1).1 61 (sl (sgn tb L p)).toNat) ∧ ((gw1 u 61 (sl (sgn tb L p)).toNat (nm tb L 200 0 (p + 2)).1).1 61 (sl (sgn tb L p)).toNat) ≤ 2147483647) then (if ((gw1 u 61 (sl (sgn tb L p)).toNat (nm tb L 200 0 (p + 2)).1).1 61 (sl (sgn tb L p)).toNat) ≤ 9999 then _ else _) else none) = _
            rw [x1, if_pos (by omega)]
          by_cases e : 9999 < (nm tb L 200 0 (p + 2)).1
          · refine .inr (.inr (.inr (.inr (.inl ⟨a, b, c, d, e, _, main2.trans (if_neg (by omega)), ?_, ?_, fun k j h1 h2 => ?_⟩))))
            · rw [gw1_1, if_pos ⟨rfl, rfl⟩, w2]
            · exact uC.1
            · rw [gw1_1, if_neg (by omega), gw1_1, if_neg (by omega)]
              exact uC.2 k j h1 h2
          · refine .inr (.inr (.inr (.inr (.inr ⟨a, b, c, d, e, _, main2.trans (if_pos (by omega)), ?_, ?_, ⟨uC.1, fun k j h1 h2 => ?_⟩, fun j => ?_⟩))))
            · rw [gw1_1, if_neg (by omega)]
              exact u2
            · rw [gw1_1, if_neg (by omega), u4 _ _ (by omega), wo _ _ (by omega), t1]
            · rw [gw1_1, if_neg (by omega)]
              exact uC.2 k j h1 h2
            · unfold uph
              rw [gw1_1]
              by_cases z : j = (sl (sgn tb L p)).toNat
              · rw [if_pos ⟨rfl, z⟩, if_pos z]
              · rw [if_neg (fun q => z q.2), if_neg z, u4 _ _ (by omega), wo _ _ (by omega), to _ _ (by omega)]
        · exact .inr (.inr (.inr (.inl ⟨a, b, c, d, w, by rw [main, if_pos c, if_neg d], w2, wC⟩)))
      · exact .inr (.inr (.inl ⟨a, b, c, t, by rw [main, if_neg c], t2, tC⟩))
end
section
/-! TEXTS of counts: the class's whole reading -/
/-- the fault of a PART at p (none: -1) -/
def prt (tb : Nat → Int) (L : Nat) (T : Int) (p : Nat) : Int :=
  if sl (sgn tb L p) = -1 then 8 * p + 1 else
  if bq T (sl (sgn tb L p)) = 1 then 8 * p + 3 else
  if ¬ sgn tb L (p + 1) = 61 then 8 * ((p + 1 : Nat) : Int) + 1 else
  if ¬ (48 ≤ sgn tb L (p + 2) ∧ sgn tb L (p + 2) ≤ 57) then 8 * ((p + 2 : Nat) : Int) + 1 else
  if 9999 < (nm tb L 200 0 (p + 2)).1 then 8 * ((p + 2 : Nat) : Int) + 2 else -1
/-- where a PART ends -/
def pe (tb : Nat → Int) (L p : Nat) : Nat := (nm tb L 200 0 (p + 2)).2
def pv (tb : Nat → Int) (L p : Nat) : Int := (nm tb L 200 0 (p + 2)).1
theorem cts_s (tb : Nat → Int) (L k : Nat) (T : Int) (p : Nat) (h : Nat → Int) : cts tb L (k + 1) T p h = if ¬ prt tb L T p = -1 then (prt tb L T p, h) else if sgn tb L (pe tb L p) = 44 then cts tb L k (bset T (sl (sgn tb L p))) (pe tb L p + 1) (uph h (sl (sgn tb L p)) (pv tb L p)) else if sgn tb L (pe tb L p) = -1 then (-1, uph h (sl (sgn tb L p)) (pv tb L p)) else (8 * (pe tb L p : Int) + 1, h) := by
  rw [cts]
  unfold prt
  by_cases a : sl (sgn tb L p) = -1
  · rw [if_pos a, if_pos a, if_pos (by omega)]
  · rw [if_neg a, if_neg a]
    by_cases b : bq T (sl (sgn tb L p)) = 1
    · rw [if_pos b, if_pos b, if_pos (by omega)]
    · rw [if_neg b, if_neg b]
      by_cases c : ¬ sgn tb L (p + 1) = 61
      · rw [if_pos c, if_pos c, if_pos (by omega)]
      · rw [if_neg c, if_neg c]
        by_cases d : ¬ (48 ≤ sgn tb L (p + 2) ∧ sgn tb L (p + 2) ≤ 57)
        · rw [if_pos d, if_pos d, if_pos (by omega)]
        · rw [if_neg d, if_neg d]
          by_cases e : 9999 < (nm tb L 200 0 (p + 2)).1
          · rw [if_pos e, if_pos e, if_pos (by omega)]
          · rw [if_neg e, if_neg e, if_neg (show ¬ ¬ (-1 : Int) = -1 from fun t => t rfl)]
            rfl
theorem prt_r {L p : Nat} {T : Int} {tb : Nat → Int} (hr : ∀ p, -1 ≤ sgn tb L p) (hp : p ≤ L) (hL : L ≤ 200) : (-1 ≤ prt tb L T p ∧ prt tb L T p ≤ 2000) ∧ (prt tb L T p = -1 → p + 2 < pe tb L p ∧ pe tb L p ≤ L ∧ (0 ≤ pv tb L p ∧ pv tb L p ≤ 9999) ∧ 0 ≤ sl (sgn tb L p) ∧ sl (sgn tb L p) ≤ 8) := by
  have r0 := sl_r (sgn tb L p)
  unfold prt
  by_cases a : sl (sgn tb L p) = -1
  · rw [if_pos a]
    exact ⟨by omega, fun h => by omega⟩
  · rw [if_neg a]
    by_cases b : bq T (sl (sgn tb L p)) = 1
    · rw [if_pos b]
      exact ⟨by omega, fun h => by omega⟩
    · rw [if_neg b]
      by_cases c : ¬ sgn tb L (p + 1) = 61
      · rw [if_pos c]
        exact ⟨by omega, fun h => by omega⟩
      · rw [if_neg c]
        by_cases d : ¬ (48 ≤ sgn tb L (p + 2) ∧ sgn tb L (p + 2) ≤ 57)
        · rw [if_pos d]
          exact ⟨by omega, fun h => by omega⟩
        · rw [if_neg d]
          have d' : 48 ≤ sgn tb L (p + 2) ∧ sgn tb L (p + 2) ≤ 57 := Classical.byContradiction d
          have hp2 : p + 2 ≤ L := Nat.le_of_not_lt fun h => by
            have : sgn tb L (p + 2) = -1 := if_neg (by omega)
            omega
          obtain ⟨⟨n1, n2⟩, n3, n4, n5⟩ := nmr hr 200 0 (p + 2) (by omega) (by omega) hp2
          by_cases e : 9999 < (nm tb L 200 0 (p + 2)).1
          · rw [if_pos e]
            exact ⟨by omega, fun h => by omega⟩
          · rw [if_neg e]
            have := n5 d' (by omega)
            exact ⟨by omega, fun _ => ⟨this, n4, ⟨n1, by unfold pv; omega⟩, by omega, by omega⟩⟩
theorem sp_5s {L p : Nat} {tb : Nat → Int} {T : Int} {s : gx_S} (hT : TC s L tb) (hp : p ≤ L) (e2 : s.1 60 2 = p) (e1 : s.1 60 1 = T) : ∃ (r : Int) (u : gx_S), gm_5 s = some (r, u) ∧ CT s u ∧ (0 ≤ r ∧ r ≤ 3) ∧ (¬ prt tb L T p = -1 → ¬ r = 0 ∧ 8 * u.1 60 2 + r = prt tb L T p) ∧ (prt tb L T p = -1 → r = 0 ∧ u.1 60 2 = (pe tb L p : Int) ∧ u.1 60 1 = bset T (sl (sgn tb L p)) ∧ ∀ j, u.1 61 j = uph (s.1 61) (sl (sgn tb L p)) (pv tb L p) j) := by
  rcases sp_5 hT hp e2 e1 with ⟨a, u, u1, u2, u3⟩ | ⟨a, b, u, u1, u2, u3⟩ | ⟨a, b, c, u, u1, u2, u3⟩ | ⟨a, b, c, d, u, u1, u2, u3⟩ | ⟨a, b, c, d, e, u, u1, u2, u3⟩ | ⟨a, b, c, d, e, u, u1, u2, u3, u4, u5⟩
  · refine ⟨_, u, u1, u3, by omega, ?_⟩
    unfold prt
    rw [if_pos a, u2]
    exact ⟨fun _ => ⟨by omega, rfl⟩, fun h => by omega⟩
  · refine ⟨_, u, u1, u3, by omega, ?_⟩
    unfold prt
    rw [if_neg a, if_pos b, u2]
    exact ⟨fun _ => ⟨by omega, rfl⟩, fun h => by omega⟩
  · refine ⟨_, u, u1, u3, by omega, ?_⟩
    unfold prt
    rw [if_neg a, if_neg b, if_pos c, u2]
    exact ⟨fun _ => ⟨by omega, rfl⟩, fun h => by omega⟩
  · refine ⟨_, u, u1, u3, by omega, ?_⟩
    unfold prt
    rw [if_neg a, if_neg b, if_neg (fun t => t c), if_pos d, u2]
    exact ⟨fun _ => ⟨by omega, rfl⟩, fun h => by omega⟩
  · refine ⟨_, u, u1, u3, by omega, ?_⟩
    unfold prt
    rw [if_neg a, if_neg b, if_neg (fun t => t c), if_neg (fun t => t d), if_pos e, u2]
    exact ⟨fun _ => ⟨by omega, rfl⟩, fun h => by omega⟩
  · refine ⟨_, u, u1, u4, by omega, ?_⟩
    unfold prt
    rw [if_neg a, if_neg b, if_neg (fun t => t c), if_neg (fun t => t d), if_neg e]
    exact ⟨fun h => absurd rfl h, fun _ => ⟨rfl, u2, u3, u5⟩⟩
theorem uph_c {h h' : Nat → Int} {j : Nat} (e : h j = h' j) (x v : Int) : uph h x v j = uph h' x v j := by
  unfold uph
  rw [e]
theorem sl_4 {L : Nat} {tb : Nat → Int} : ∀ (k p n x3 : Nat) (T : Int) (h : Nat → Int) (s : gx_S), L < p + 4 * k → p ≤ L → k < n → x3 + k ≤ 200 → TC s L tb → s.1 60 2 = p → s.1 60 1 = T → (∀ j, j < 9 → s.1 61 j = h j) → ∃ u : gx_S, gm_4_33 n 1 x3 s = some ((cts tb L k T p h).1, u) ∧ CT s u ∧ (-1 ≤ (cts tb L k T p h).1 ∧ (cts tb L k T p h).1 ≤ 2000) ∧ ((cts tb L k T p h).1 = -1 → ∀ j, j < 9 → u.1 61 j = (cts tb L k T p h).2 j) := by
  intro k
  induction k with
  | zero => intro p n x3 T h s h1 h2; omega
  | succ k ih =>
    intro p n x3 T h s h1 h2 h3 h4 hT e2 e1 eh
    obtain ⟨n, rfl⟩ : ∃ n', n = n' + 1 := ⟨n - 1, by omega⟩
    have hL := hT.1
    have sr := sgn_r hT
    obtain ⟨pr1, pr2⟩ := prt_r (T := T) (fun q => (sr q).1) h2 hL
    obtain ⟨r, u, u1, uC, r1, u2, u3⟩ := sp_5s hT h2 e2 e1
    rw [gm_4_33, if_pos (by omega), if_neg (by omega), if_pos (show (-2147483648 : Int) ≤ 1 ∧ (1 : Int) ≤ 2147483647 by decide), if_neg (show ¬ (1 : Int) = 0 by decide), u1, Option.bind_some, cts_s]
    show ∃ v : gx_S, (if -2147483648 ≤ r ∧ r ≤ 2147483647 then (if r = 0 then ((gm_83 (u.1 60 2) u).bind _) else some (((8 * (u.1 60 2)) + r), u)) else none) = _ ∧ _
    rw [if_pos (by omega)]
    by_cases z : prt tb L T p = -1
    · obtain ⟨p1, p2, p3, p4⟩ := pr2 z
      obtain ⟨v1, v2, v3, v4⟩ := u3 z
      have uT := CT_TC uC hT
      have sq := sr (pe tb L p)
      rw [if_pos v1, v2, sp_83 uT (by omega), Option.bind_some, if_neg (show ¬ ¬ prt tb L T p = -1 from fun t => t z)]
      show ∃ v : gx_S, (if -2147483648 ≤ sgn tb L (pe tb L p) ∧ sgn tb L (pe tb L p) ≤ 2147483647 then (if sgn tb L (pe tb L p) = 44 then gm_4_100 (gm_4_33 n) x3 (sgn tb L (pe tb L p)) u else if sgn tb L (pe tb L p) = -1 then gm_4_100 (gm_4_33 n) x3 (sgn tb L (pe tb L p)) u else some (((8 * (u.1 60 2)) + 1), u)) else none) = _ ∧ _
      rw [if_pos (by omega)]
      by_cases c : sgn tb L (pe tb L p) = 44
      · have hq : pe tb L p < L := Classical.byContradiction fun h => by
          have : sgn tb L (pe tb L p) = -1 := if_neg h
          omega
        have ce : ((x3 : Int) + 1) = ((x3 + 1 : Nat) : Int) := rfl
        have cp : ((pe tb L p : Int) + 1) = ((pe tb L p + 1 : Nat) : Int) := rfl
        rw [if_pos c, if_pos c]
        unfold gm_4_100 gm_4_112
        rw [c, if_pos (show (-2147483648 : Int) ≤ 44 ∧ (44 : Int) ≤ 2147483647 by decide), if_neg (show ¬ ¬ (44 : Int) = 44 from fun t => t rfl), v2, ce, cp]
        have o : ∀ k j, ¬ (k = 60 ∧ j = 2) → (gw1 u 60 2 ((pe tb L p + 1 : Nat) : Int)).1 k j = u.1 k j := fun k j q => by rw [gw1_1, if_neg q]
        have oC : CT u (gw1 u 60 2 ((pe tb L p + 1 : Nat) : Int)) := ⟨rfl, fun k j q1 q2 => o k j (by omega)⟩
        obtain ⟨w, w1, w2, w3, w4⟩ := ih (pe tb L p + 1) n (x3 + 1) (bset T (sl (sgn tb L p))) (uph h (sl (sgn tb L p)) (pv tb L p)) (gw1 u 60 2 ((pe tb L p + 1 : Nat) : Int)) (by omega) (by omega) (by omega) (by omega) (CT_TC oC uT) (by rw [gw1_1, if_pos ⟨rfl, rfl⟩]) (by rw [o _ _ (by omega), v3]) (fun j hj => by rw [o _ _ (by omega), v4 j]; exact uph_c (eh j hj) _ _)
        exact ⟨w, w1, CT_tr uC (CT_tr oC w2), w3, w4⟩
      · rw [if_neg c, if_neg c]
        by_cases d : sgn tb L (pe tb L p) = -1
        · have ce : ((x3 : Int) + 1) = ((x3 + 1 : Nat) : Int) := rfl
          obtain ⟨n, rfl⟩ : ∃ n', n = n' + 1 := ⟨n - 1, by omega⟩
          have o : ∀ k j, ¬ (k = 60 ∧ j = 2) → (gw1 u 60 2 (u.1 60 2 + 1)).1 k j = u.1 k j := fun k j q => by rw [gw1_1, if_neg q]
          rw [if_pos d, if_pos d]
          unfold gm_4_100 gm_4_112
          rw [d, if_pos (show (-2147483648 : Int) ≤ -1 ∧ (-1 : Int) ≤ 2147483647 by decide), if_pos (show ¬ (-1 : Int) = 44 by decide), ce, gm_4_33, if_pos (by omega)]
          refine ⟨gw1 u 60 2 (u.1 60 2 + 1), ?_, CT_tr uC ⟨rfl, fun k j q1 q2 => o k j (by omega)⟩, by omega, fun _ j hj => by rw [o _ _ (by omega), v4 j]; exact uph_c (eh j hj) _ _⟩
          by_cases y : 200 ≤ ((x3 + 1 : Nat) : Int)
          · rw [if_pos y]
          · rw [if_neg y, if_pos (show (-2147483648 : Int) ≤ 0 ∧ (0 : Int) ≤ 2147483647 by decide), if_pos rfl]
        · rw [if_neg d, if_neg d, v2]
          exact ⟨u, rfl, uC, by omega, fun h => by omega⟩
    · obtain ⟨v1, v2⟩ := u2 z
      rw [if_neg v1, v2, if_pos z]
      exact ⟨u, rfl, uC, pr1, fun h => absurd h z⟩
/-- counts as a whole -/
def ctw (tb : Nat → Int) (L : Nat) : Int × (Nat → Int) := if L = 0 then (-1, fun _ => 0) else cts tb L 51 0 0 fun _ => 0
theorem sp_4 {L : Nat} {tb : Nat → Int} {s : gx_S} (hT : TC s L tb) : ∃ u : gx_S, gm_4 s = some ((ctw tb L).1, u) ∧ CT s u ∧ (-1 ≤ (ctw tb L).1 ∧ (ctw tb L).1 ≤ 2000) ∧ ((ctw tb L).1 = -1 → ∀ j, j < 9 → u.1 61 j = (ctw tb L).2 j) := by
  have hL := hT.1
  obtain ⟨a, a1, a2, a3, a4⟩ := sp_235g (k := 61) (n := 9) 0 s (by decide +kernel) (by omega) (by omega)
  obtain ⟨b, hb⟩ : ∃ b, b = gw1 (gw1 a 60 1 0) 60 2 0 := ⟨_, rfl⟩
  have bo : ∀ k j, ¬ (k = 60 ∧ (j = 1 ∨ j = 2)) → b.1 k j = a.1 k j := fun k j q => by rw [hb, gw1_1, if_neg (by omega), gw1_1, if_neg (by omega)]
  have bC : CT s b := ⟨by rw [hb]; exact a2, fun k j q1 q2 => by rw [bo k j (by omega), a3 k j q2]⟩
  have bT := CT_TC bC hT
  have b61 : ∀ j, j < 9 → b.1 61 j = 0 := fun j hj => by rw [bo _ _ (by omega), a4, if_pos hj]
  have b1 : b.1 60 1 = 0 := by rw [hb, gw1_1, if_neg (by omega), gw1_1, if_pos ⟨rfl, rfl⟩]
  have b2 : b.1 60 2 = ((0 : Nat) : Int) := by rw [hb, gw1_1, if_pos ⟨rfl, rfl⟩]; rfl
  unfold gm_4 ctw
  rw [a1, Option.bind_some, ← hb, bT.2.1, if_pos (by omega)]
  by_cases z : L = 0
  · rw [if_pos (by omega), if_pos z]
    refine ⟨b, ?_, bC, by omega, fun _ j hj => b61 j hj⟩
    unfold gm_4_30
    rw [gm_4_33, if_pos (by decide), if_neg (by decide), if_pos (by decide), if_pos rfl]
  · obtain ⟨u, u1, u2, u3, u4⟩ := sl_4 51 0 100000 0 0 (fun _ => 0) b (by omega) (by omega) (by omega) (by omega) bT b2 b1 b61
    have u1 : gm_4_30 1 b = _ := u1
    rw [if_neg (by omega), if_neg z, u1]
    exact ⟨u, rfl, CT_tr bC u2, u3, u4⟩
theorem cts_r {L : Nat} {tb : Nat → Int} (hr : ∀ p, -1 ≤ sgn tb L p) (hL : L ≤ 200) : ∀ (k p : Nat) (T : Int) (h : Nat → Int), p ≤ L → (∀ j, 0 ≤ h j ∧ h j ≤ 9999) → ∀ j, 0 ≤ (cts tb L k T p h).2 j ∧ (cts tb L k T p h).2 j ≤ 9999 := by
  intro k
  induction k with
  | zero => intro p T h hp hh; exact hh
  | succ k ih =>
    intro p T h hp hh
    obtain ⟨p1, p2⟩ := prt_r (T := T) hr hp hL
    rw [cts_s]
    by_cases z : prt tb L T p = -1
    · obtain ⟨q1, q2, q3, q4⟩ := p2 z
      have hu : ∀ j, 0 ≤ uph h (sl (sgn tb L p)) (pv tb L p) j ∧ uph h (sl (sgn tb L p)) (pv tb L p) j ≤ 9999 := fun j => by
        unfold uph
        split
        · exact q3
        · exact hh j
      rw [if_neg (show ¬ ¬ prt tb L T p = -1 from fun t => t z)]
      by_cases c : sgn tb L (pe tb L p) = 44
      · have hq : pe tb L p < L := Classical.byContradiction fun h => by
          have : sgn tb L (pe tb L p) = -1 := if_neg h
          omega
        rw [if_pos c]
        exact ih _ _ _ (by omega) hu
      · rw [if_neg c]
        by_cases d : sgn tb L (pe tb L p) = -1
        · rw [if_pos d]
          exact hu
        · rw [if_neg d]
          exact hh
    · rw [if_pos z]
      exact hh
theorem ctw_r {L : Nat} {tb : Nat → Int} (hr : ∀ p, -1 ≤ sgn tb L p) (hL : L ≤ 200) (j : Nat) : 0 ≤ (ctw tb L).2 j ∧ (ctw tb L).2 j ≤ 9999 := by
  unfold ctw
  by_cases z : L = 0
  · rw [if_pos z]
    exact (show (0 : Int) ≤ 0 ∧ (0 : Int) ≤ 9999 by decide)
  · rw [if_neg z]
    exact cts_r hr hL 51 0 0 _ (by omega) (fun _ => ⟨by decide, by decide⟩) j
end
section
/-! TEXTS of counts: the reference's whole reading -/
def CR (s u : gx_S) : Prop := u.2 = s.2 ∧ ∀ k j, k ≠ 220 → ¬ (k = 215 ∧ (j = 5 ∨ j = 6 ∨ j = 11)) → u.1 k j = s.1 k j
theorem CR_tr {s t u : gx_S} (a : CR s t) (b : CR t u) : CR s u := ⟨b.1.trans a.1, fun k j h1 h2 => (b.2 k j h1 h2).trans (a.2 k j h1 h2)⟩
theorem CR_TF {s u : gx_S} {L : Nat} {tb : Nat → Int} (a : CR s u) (T : TF s L tb) : TF u L tb := TF_o (a.2 _ _ (by omega) (by omega)) (fun i => a.2 _ _ (by omega) (by omega)) T
theorem CR_1 (s : gx_S) {j : Nat} (x : Int) (h : j = 5 ∨ j = 6 ∨ j = 11) : CR s (gw1 s 215 j x) := ⟨rfl, fun k i q1 q2 => by rw [gw1_1, if_neg (by omega)]⟩
theorem fp_236 (s : gx_S) {x v : Int} (h : 0 ≤ x ∧ x < 9) : ∃ u : gx_S, gm_146_236 x v s = some u ∧ CR s u ∧ u.1 215 6 = s.1 215 6 ∧ u.1 215 5 = s.1 215 5 ∧ u.1 215 11 = bset (s.1 215 11) x ∧ ∀ j, u.1 220 j = uph (s.1 220) x v j := by
  refine ⟨gw1 (gw1 s 220 x.toNat v) 215 11 (bset (s.1 215 11) x), ?_, ⟨rfl, fun k i q1 q2 => by rw [gw1_1, if_neg (by omega), gw1_1, if_neg (by omega)]⟩, by rw [gw1_1, if_neg (by omega), gw1_1, if_neg (by omega)], by rw [gw1_1, if_neg (by omega), gw1_1, if_neg (by omega)], by rw [gw1_1, if_pos ⟨rfl, rfl⟩], fun j => ?_⟩
  · unfold gm_146_236 bset
    rw [if_pos h]
    have e : (gw1 s 220 x.toNat v).1 215 11 = s.1 215 11 := by rw [gw1_1, if_neg (by omega)]
    rw [e]
  · unfold uph
    rw [gw1_1, if_neg (by omega), gw1_1]
    by_cases z : j = x.toNat
    · rw [if_pos ⟨rfl, z⟩, if_pos z]
    · rw [if_neg (fun t => z t.2), if_neg z]
theorem fp_222 (s : gx_S) {x b v : Int} (h : 0 ≤ x ∧ x < 9) (hv : i32 v) (h6 : i32 (s.1 215 6)) (h7 : ¬ s.1 215 6 = -1) : ∃ u : gx_S, gm_146_222 x b v s = some u ∧ CR s u ∧ u.1 215 6 = s.1 215 6 := by
  have hv' := hv
  unfold i32 at hv'
  unfold gm_146_222
  obtain ⟨u, u1, u2, u3, _⟩ := fp_236 s (v := v) h
  rw [if_pos hv', sp_139 h6, if_neg h7, Option.bind_some, u1]
  exact ⟨u, by split <;> rfl, u2, u3⟩
theorem fp_161 (s : gx_S) {x b : Int} (h : 0 ≤ x ∧ x < 9) (h6 : i32 (s.1 215 6)) (h7 : ¬ s.1 215 6 = -1) : ∃ u : gx_S, gm_146_161 x b s = some u ∧ CR s u ∧ u.1 215 6 = s.1 215 6 := by
  have e : gm_146_161 x b s = gm_146_222 x b 0 s := by
    unfold gm_146_161
    rw [gm_146_164, sp_138 h6, Option.bind_some, if_pos ((gbD s).mpr h7)]
  rw [e]
  exact fp_222 s h (by unfold i32; omega) h6 h7
theorem fp_113 (s : gx_S) {x : Int} (h : 0 ≤ x ∧ x < 9) (h6 : i32 (s.1 215 6)) (h7 : ¬ s.1 215 6 = -1) : ∃ u : gx_S, gm_146_113 x s = some u ∧ CR s u ∧ u.1 215 6 = s.1 215 6 := by
  obtain ⟨t, ht⟩ : ∃ t, t = gw1 s 215 5 ((s.1 215 5) + 1) := ⟨_, rfl⟩
  have t6 : t.1 215 6 = s.1 215 6 := by rw [ht, gw1_1, if_neg (by omega)]
  obtain ⟨u, u1, u2, u3⟩ := fp_161 t (b := t.1 215 5) h (by rw [t6]; exact h6) (by rw [t6]; exact h7)
  unfold gm_146_113
  rw [← ht, sp_138 (by rw [t6]; exact h6), Option.bind_some, if_pos ((gbD s).mpr (by rw [t6]; exact h7))]
  exact ⟨u, u1, CR_tr (by rw [ht]; exact CR_1 s _ (by omega)) u2, u3.trans t6⟩
theorem fp_78 (s : gx_S) {x : Int} (h : 0 ≤ x ∧ x < 9) (h6 : i32 (s.1 215 6)) (h7 : ¬ s.1 215 6 = -1) : ∃ u : gx_S, gm_146_78 x s = some u ∧ CR s u ∧ u.1 215 6 = s.1 215 6 := by
  obtain ⟨t, ht⟩ : ∃ t, t = gw1 s 215 5 ((s.1 215 5) + 1) := ⟨_, rfl⟩
  have t6 : t.1 215 6 = s.1 215 6 := by rw [ht, gw1_1, if_neg (by omega)]
  obtain ⟨u, u1, u2, u3⟩ := fp_113 t h (by rw [t6]; exact h6) (by rw [t6]; exact h7)
  unfold gm_146_78
  rw [← ht, sp_138 (by rw [t6]; exact h6), Option.bind_some, if_pos ((gbD s).mpr (by rw [t6]; exact h7))]
  exact ⟨u, u1, CR_tr (by rw [ht]; exact CR_1 s _ (by omega)) u2, u3.trans t6⟩
theorem sp_146 {L p : Nat} {tb : Nat → Int} {T : Int} {s : gx_S} (hT : TF s L tb) (hp : p ≤ L) (e5 : s.1 215 5 = p) (e6 : s.1 215 6 = -1) (e11 : s.1 215 11 = T) : ∃ u : gx_S, gm_146 s = some u ∧ CR s u ∧ u.1 215 6 = prt tb L T p ∧ (prt tb L T p = -1 → u.1 215 5 = (pe tb L p : Int) ∧ u.1 215 11 = bset T (sl (sgn tb L p)) ∧ ∀ j, u.1 220 j = uph (s.1 220) (sl (sgn tb L p)) (pv tb L p) j) := by
  have hL := hT.1
  have sr := sgn_rf hT
  have s0 := sr p
  have r0 := sl_r (sgn tb L p)
  have br := i32r ((Int32.ofInt (((Int32.ofInt T >>> (Int32.ofInt (sl (sgn tb L p)) &&& 31))).toInt) &&& Int32.ofInt 1))
  have br : -2147483648 ≤ bq T (sl (sgn tb L p)) ∧ bq T (sl (sgn tb L p)) ≤ 2147483647 := br
  have g1 : gm_146 s = gm_146_47 p (sl (sgn tb L p)) s := by
    unfold gm_146
    rw [sp_137 hT (by omega) e5, Option.bind_some]
    show (if -2147483648 ≤ sgn tb L p ∧ sgn tb L p ≤ 2147483647 then (if ¬ sgn tb L p = 63 then ((gm_137 s).bind _) else gm_146_47 (s.1 215 5) 8 s) else none) = _
    rw [if_pos (by omega), sp_137 hT (by omega) e5, Option.bind_some]
    show (if ¬ sgn tb L p = 63 then (if -2147483648 ≤ sgn tb L p ∧ sgn tb L p ≤ 2147483647 then ((gm_130 (sgn tb L p) 97 104 s).bind fun q68 => if (gb q68.1) = 0 then gm_146_47 (s.1 215 5) (-1) q68.2 else ((gm_137 q68.2).bind fun q71 => gm_146_47 (s.1 215 5) (q71.1 - 97) q71.2)) else none) else gm_146_47 (s.1 215 5) 8 s) = _
    rw [if_pos (show -2147483648 ≤ sgn tb L p ∧ sgn tb L p ≤ 2147483647 by omega), in_ s (by unfold i32; omega) (by omega) (by omega), Option.bind_some, e5]
    show (if ¬ sgn tb L p = 63 then (if (gb (decide (97 ≤ sgn tb L p ∧ sgn tb L p ≤ 104))) = 0 then gm_146_47 p (-1) s else ((gm_137 s).bind fun q71 => gm_146_47 p (q71.1 - 97) q71.2)) else gm_146_47 p 8 s) = _
    rw [sp_137 hT (by omega) e5, Option.bind_some]
    unfold sl
    by_cases a : sgn tb L p = 63
    · rw [if_neg (fun t => t a), if_pos a]
    · rw [if_pos a, if_neg a]
      by_cases b : 97 ≤ sgn tb L p ∧ sgn tb L p ≤ 104
      · rw [if_neg (fun t => (gbD s).mp t b), if_pos b]
      · rw [if_pos ((gbD s).mpr b), if_neg b]
  rw [g1]
  unfold gm_146_47 prt
  rw [if_pos (by omega)]
  by_cases a : sl (sgn tb L p) = -1
  · rw [if_neg (fun t => t a), sp_139 (by rw [e6]; unfold i32; omega), if_pos e6, Option.bind_some, if_pos a]
    exact ⟨_, rfl, CR_1 s _ (by omega), by rw [gw1_1, if_pos ⟨rfl, rfl⟩], fun h => by omega⟩
  · rw [if_pos a, if_neg a, e11]
    show ∃ u : gx_S, (if (-2147483648 ≤ bq T (sl (sgn tb L p)) ∧ bq T (sl (sgn tb L p)) ≤ 2147483647) then (if ¬ bq T (sl (sgn tb L p)) = 1 then (gm_146_78 (sl (sgn tb L p)) s) else ((gm_139 3 p s).bind fun q6 => gm_146_78 (sl (sgn tb L p)) q6)) else none) = _ ∧ _
    rw [if_pos br]
    by_cases b : bq T (sl (sgn tb L p)) = 1
    · rw [if_neg (fun t => t b), sp_139 (by rw [e6]; unfold i32; omega), if_pos e6, Option.bind_some, if_pos b]
      have t6 : (gw1 s 215 6 (8 * (p : Int) + 3)).1 215 6 = 8 * (p : Int) + 3 := by rw [gw1_1, if_pos ⟨rfl, rfl⟩]
      obtain ⟨u, u1, u2, u3⟩ := fp_78 (gw1 s 215 6 (8 * (p : Int) + 3)) (x := sl (sgn tb L p)) (by omega) (by rw [t6]; unfold i32; omega) (by rw [t6]; omega)
      exact ⟨u, u1, CR_tr (CR_1 s _ (by omega)) u2, u3.trans t6, fun h => by omega⟩
    · rw [if_pos b, if_neg b]
      obtain ⟨t, ht⟩ : ∃ t, t = gw1 s 215 5 ((p + 1 : Nat) : Int) := ⟨_, rfl⟩
      have tC : CR s t := by rw [ht]; exact CR_1 s _ (by omega)
      have tT := CR_TF tC hT
      have t5 : t.1 215 5 = ((p + 1 : Nat) : Int) := by rw [ht, gw1_1, if_pos ⟨rfl, rfl⟩]
      have t6 : t.1 215 6 = -1 := by rw [ht, gw1_1, if_neg (by omega)]; exact e6
      have s1 := sr (p + 1)
      have g2 : gm_146_78 (sl (sgn tb L p)) s = if sgn tb L (p + 1) = 61 then gm_146_113 (sl (sgn tb L p)) t else gm_146_113 (sl (sgn tb L p)) (gw1 t 215 6 (8 * ((p + 1 : Nat) : Int) + 1)) := by
        have et : gw1 s 215 5 ((s.1 215 5) + 1) = t := by rw [e5, ht]; rfl
        unfold gm_146_78
        rw [et, sp_138 (by rw [t6]; unfold i32; omega), Option.bind_some, if_neg (fun q => (gbD s).mp q t6)]
        show ((gm_137 t).bind _) = _
        rw [sp_137 tT (by omega) t5, Option.bind_some]
        show (if -2147483648 ≤ sgn tb L (p + 1) ∧ sgn tb L (p + 1) ≤ 2147483647 then (if sgn tb L (p + 1) = 61 then gm_146_113 (sl (sgn tb L p)) t else ((gm_139 1 (t.1 215 5) t).bind fun q9 => gm_146_113 (sl (sgn tb L p)) q9)) else none) = _
        rw [if_pos (by omega), sp_139 (by rw [t6]; unfold i32; omega), if_pos t6, Option.bind_some, t5]
      rw [g2]
      by_cases c : sgn tb L (p + 1) = 61
      · rw [if_pos c, if_neg (show ¬ ¬ sgn tb L (p + 1) = 61 from fun q => q c)]
        obtain ⟨w, hw⟩ : ∃ w, w = gw1 t 215 5 ((p + 2 : Nat) : Int) := ⟨_, rfl⟩
        have wC : CR t w := by rw [hw]; exact CR_1 t _ (by omega)
        have wT := CR_TF wC tT
        have w5 : w.1 215 5 = ((p + 2 : Nat) : Int) := by rw [hw, gw1_1, if_pos ⟨rfl, rfl⟩]
        have wo : ∀ k j, ¬ (k = 215 ∧ j = 5) → w.1 k j = s.1 k j := fun k j q => by rw [hw, gw1_1, if_neg q, ht, gw1_1, if_neg q]
        have w6 : w.1 215 6 = -1 := by rw [wo _ _ (by omega)]; exact e6
        have s2 := sr (p + 2)
        have g3 : gm_146_113 (sl (sgn tb L p)) t = if 48 ≤ sgn tb L (p + 2) ∧ sgn tb L (p + 2) ≤ 57 then gm_146_161 (sl (sgn tb L p)) ((p + 2 : Nat) : Int) w else gm_146_161 (sl (sgn tb L p)) ((p + 2 : Nat) : Int) (gw1 w 215 6 (8 * ((p + 2 : Nat) : Int) + 1)) := by
          have et : gw1 t 215 5 ((t.1 215 5) + 1) = w := by rw [t5, hw]; rfl
          unfold gm_146_113
          rw [et, sp_138 (by rw [w6]; unfold i32; omega), Option.bind_some, if_neg (fun q => (gbD s).mp q w6)]
          show ((gm_137 w).bind _) = _
          rw [sp_137 wT (by omega) w5, Option.bind_some]
          show (if -2147483648 ≤ sgn tb L (p + 2) ∧ sgn tb L (p + 2) ≤ 2147483647 then ((gm_130 (sgn tb L (p + 2)) 48 57 w).bind fun q8 => if ¬ (gb q8.1) = 0 then gm_146_161 (sl (sgn tb L p)) (w.1 215 5) q8.2 else ((gm_139 1 (q8.2.1 215 5) q8.2).bind fun q11 => gm_146_161 (sl (sgn tb L p)) (w.1 215 5) q11)) else none) = _
          rw [if_pos (by omega), in_ w (by unfold i32; omega) (by omega) (by omega), Option.bind_some]
          show (if ¬ (gb (decide (48 ≤ sgn tb L (p + 2) ∧ sgn tb L (p + 2) ≤ 57))) = 0 then gm_146_161 (sl (sgn tb L p)) (w.1 215 5) w else ((gm_139 1 (w.1 215 5) w).bind fun q11 => gm_146_161 (sl (sgn tb L p)) (w.1 215 5) q11)) = _
          rw [sp_139 (by rw [w6]; unfold i32; omega), if_pos w6, Option.bind_some, w5]
          by_cases d : 48 ≤ sgn tb L (p + 2) ∧ sgn tb L (p + 2) ≤ 57
          · rw [if_pos (fun q => (gbD w).mp q d), if_pos d]
          · rw [if_neg (fun q => q ((gbD w).mpr d)), if_neg d]
        rw [g3]
        by_cases d : 48 ≤ sgn tb L (p + 2) ∧ sgn tb L (p + 2) ≤ 57
        · rw [if_pos d, if_neg (show ¬ ¬ (48 ≤ sgn tb L (p + 2) ∧ sgn tb L (p + 2) ≤ 57) from fun q => q d)]
          have hp2 : p + 2 ≤ L := Nat.le_of_not_lt fun h => by
            have : sgn tb L (p + 2) = -1 := if_neg (by omega)
            omega
          obtain ⟨⟨n1, n2⟩, n3, n4, n5⟩ := nmr (fun q => (sr q).1) 200 0 (p + 2) (by omega) (by omega) hp2
          obtain ⟨u, u1, u2, u3, u4⟩ := sl_146 (sl := sl (sgn tb L p)) (b := ((p + 2 : Nat) : Int)) 200 (p + 2) 100000 0 w (by omega) hp2 (by omega) (by omega) (by omega) wT w5 w6
          have u1 : gm_146_161 (sl (sgn tb L p)) ((p + 2 : Nat) : Int) w = _ := u1
          have u6 : u.1 215 6 = -1 := by rw [u4 _ _ (by omega)]; exact w6
          have uC : CR s u := CR_tr tC (CR_tr wC ⟨u3, fun k j q1 q2 => u4 k j (by omega)⟩)
          rw [u1]
          unfold gm_146_222
          rw [if_pos (by omega), sp_139 (by rw [u6]; unfold i32; omega), if_pos u6, Option.bind_some]
          by_cases e : 9999 < (nm tb L 200 0 (p + 2)).1
          · obtain ⟨v, v1, v2, v3, _⟩ := fp_236 (gw1 u 215 6 (8 * ((p + 2 : Nat) : Int) + 2)) (x := sl (sgn tb L p)) (v := (nm tb L 200 0 (p + 2)).1) (by omega)
            rw [if_neg (show ¬ (nm tb L 200 0 (p + 2)).1 ≤ 9999 by omega), v1, if_pos e]
            exact ⟨v, rfl, CR_tr uC (CR_tr (CR_1 u _ (by omega)) v2), by rw [v3, gw1_1, if_pos ⟨rfl, rfl⟩], fun h => by omega⟩
          · obtain ⟨v, v1, v2, v3, v4, v5, v6⟩ := fp_236 u (x := sl (sgn tb L p)) (v := (nm tb L 200 0 (p + 2)).1) (by omega)
            rw [if_pos (show (nm tb L 200 0 (p + 2)).1 ≤ 9999 by omega), v1, if_neg e]
            refine ⟨v, rfl, CR_tr uC v2, v3.trans u6, fun _ => ⟨v4.trans u2, ?_, fun j => ?_⟩⟩
            · rw [v5, u4 _ _ (by omega), wo _ _ (by omega), e11]
            · rw [v6]
              refine uph_c ?_ _ _
              rw [u4 _ _ (by omega), wo _ _ (by omega)]
        · rw [if_neg d, if_pos (show ¬ (48 ≤ sgn tb L (p + 2) ∧ sgn tb L (p + 2) ≤ 57) from d)]
          have x6 : (gw1 w 215 6 (8 * ((p + 2 : Nat) : Int) + 1)).1 215 6 = 8 * ((p + 2 : Nat) : Int) + 1 := by rw [gw1_1, if_pos ⟨rfl, rfl⟩]
          obtain ⟨u, u1, u2, u3⟩ := fp_161 (gw1 w 215 6 (8 * ((p + 2 : Nat) : Int) + 1)) (x := sl (sgn tb L p)) (b := ((p + 2 : Nat) : Int)) (by omega) (by rw [x6]; unfold i32; omega) (by rw [x6]; omega)
          exact ⟨u, u1, CR_tr tC (CR_tr wC (CR_tr (CR_1 w _ (by omega)) u2)), u3.trans x6, fun h => by omega⟩
      · rw [if_neg c, if_pos (show ¬ sgn tb L (p + 1) = 61 from c)]
        have x6 : (gw1 t 215 6 (8 * ((p + 1 : Nat) : Int) + 1)).1 215 6 = 8 * ((p + 1 : Nat) : Int) + 1 := by rw [gw1_1, if_pos ⟨rfl, rfl⟩]
        obtain ⟨u, u1, u2, u3⟩ := fp_113 (gw1 t 215 6 (8 * ((p + 1 : Nat) : Int) + 1)) (x := sl (sgn tb L p)) (by omega) (by rw [x6]; unfold i32; omega) (by rw [x6]; omega)
        exact ⟨u, u1, CR_tr tC (CR_tr (CR_1 t _ (by omega)) u2), u3.trans x6, fun h => by omega⟩
end
section
/-! CALLS: counts -/
theorem sl_147_49 {L : Nat} {tb : Nat → Int} : ∀ (k p n : Nat) (T : Int) (h : Nat → Int) (s : gx_S), L < p + 4 * k → p ≤ L → k < n → TF s L tb → s.1 215 5 = p → s.1 215 6 = -1 → s.1 215 11 = T → (∀ j, j < 9 → s.1 220 j = h j) → ∃ u : gx_S, gm_147_49 n 1 s = some u ∧ CR s u ∧ u.1 215 6 = (cts tb L k T p h).1 ∧ ((cts tb L k T p h).1 = -1 → ∀ j, j < 9 → u.1 220 j = (cts tb L k T p h).2 j) := by
  intro k
  induction k with
  | zero => intro p n T h s h1 h2; omega
  | succ k ih =>
    intro p n T h s h1 h2 h3 hT e5 e6 e11 eh
    obtain ⟨n, rfl⟩ : ∃ n', n = n' + 1 := ⟨n - 1, by omega⟩
    have hL := hT.1
    have sr := sgn_rf hT
    obtain ⟨pr1, pr2⟩ := prt_r (T := T) (fun q => (sr q).1) h2 hL
    obtain ⟨u, u1, uC, u2, u3⟩ := sp_146 hT h2 e5 e6 e11
    have ui : i32 (u.1 215 6) := by rw [u2]; unfold i32; omega
    have uT := CR_TF uC hT
    rw [gm_147_49, if_pos (show (-2147483648 : Int) ≤ 1 ∧ (1 : Int) ≤ 2147483647 by decide), if_neg (show ¬ (1 : Int) = 0 by decide), u1, Option.bind_some, sp_138 ui, Option.bind_some, cts_s]
    have st : ∀ y, u.1 215 5 = y → gm_147_78 (gm_147_49 n) 0 u = gm_147_49 n 0 (gw1 u 215 5 y) := fun y hy => by
      unfold gm_147_78
      rw [sp_131 (.inl rfl) u, Option.bind_some]
      show gm_147_49 n 0 (gw1 u 215 5 (u.1 215 5 + 0)) = _
      rw [hy, show y + 0 = y by omega]
    by_cases z : prt tb L T p = -1
    · obtain ⟨p1, p2, p3, p4⟩ := pr2 z
      obtain ⟨v1, v2, v3⟩ := u3 z
      have sq := sr (pe tb L p)
      rw [if_neg (fun t => (gbD u).mp t (u2.trans z)), if_neg (show ¬ ¬ prt tb L T p = -1 from fun t => t z)]
      show ∃ v : gx_S, ((gm_137 u).bind _) = _ ∧ _
      rw [sp_137 uT (by omega) v1, Option.bind_some]
      show ∃ v : gx_S, (if -2147483648 ≤ sgn tb L (pe tb L p) ∧ sgn tb L (pe tb L p) ≤ 2147483647 then (if ¬ sgn tb L (pe tb L p) = 44 then gm_147_78 (gm_147_49 n) 0 u else gm_147_78 (gm_147_49 n) 1 u) else none) = _ ∧ _
      rw [if_pos (by omega)]
      by_cases c : sgn tb L (pe tb L p) = 44
      · have hq : pe tb L p < L := Classical.byContradiction fun h => by
          have : sgn tb L (pe tb L p) = -1 := if_neg h
          omega
        have cp : ((pe tb L p : Int) + 1) = ((pe tb L p + 1 : Nat) : Int) := rfl
        rw [if_neg (fun t => t c), if_pos c]
        unfold gm_147_78
        rw [sp_131 (.inr rfl) u, Option.bind_some]
        show ∃ v : gx_S, (gm_147_49 n 1 (gw1 u 215 5 (u.1 215 5 + 1))) = _ ∧ _
        rw [v1, cp]
        have o : ∀ k j, ¬ (k = 215 ∧ j = 5) → (gw1 u 215 5 ((pe tb L p + 1 : Nat) : Int)).1 k j = u.1 k j := fun k j q => by rw [gw1_1, if_neg q]
        have oC : CR u (gw1 u 215 5 ((pe tb L p + 1 : Nat) : Int)) := CR_1 u _ (by omega)
        obtain ⟨w, w1, w2, w3, w4⟩ := ih (pe tb L p + 1) n (bset T (sl (sgn tb L p))) (uph h (sl (sgn tb L p)) (pv tb L p)) (gw1 u 215 5 ((pe tb L p + 1 : Nat) : Int)) (by omega) (by omega) (by omega) (CR_TF oC uT) (by rw [gw1_1, if_pos ⟨rfl, rfl⟩]) (by rw [o _ _ (by omega), u2, z]) (by rw [o _ _ (by omega), v2]) (fun j hj => by rw [o _ _ (by omega), v3 j]; exact uph_c (eh j hj) _ _)
        exact ⟨w, w1, CR_tr uC (CR_tr oC w2), w3, w4⟩
      · obtain ⟨n, rfl⟩ : ∃ n', n = n' + 1 := ⟨n - 1, by omega⟩
        obtain ⟨t, ht⟩ : ∃ t, t = gw1 u 215 5 (pe tb L p : Int) := ⟨_, rfl⟩
        have to : ∀ k j, ¬ (k = 215 ∧ j = 5) → t.1 k j = u.1 k j := fun k j q => by rw [ht, gw1_1, if_neg q]
        have tC : CR u t := by rw [ht]; exact CR_1 u _ (by omega)
        have t6 : t.1 215 6 = -1 := by rw [to _ _ (by omega), u2, z]
        have t5 : t.1 215 5 = (pe tb L p : Int) := by rw [ht, gw1_1, if_pos ⟨rfl, rfl⟩]
        rw [if_pos c, st _ v1, if_neg c, ← ht, gm_147_49, if_pos (show (-2147483648 : Int) ≤ 0 ∧ (0 : Int) ≤ 2147483647 by decide), if_pos rfl, sp_138 (by rw [t6]; unfold i32; omega), Option.bind_some, if_neg (fun q => (gbD u).mp q t6)]
        show ∃ v : gx_S, ((gm_137 t).bind _) = _ ∧ _
        rw [sp_137 (CR_TF tC uT) (by omega) t5, Option.bind_some]
        show ∃ v : gx_S, (if -2147483648 ≤ sgn tb L (pe tb L p) ∧ sgn tb L (pe tb L p) ≤ 2147483647 then (if sgn tb L (pe tb L p) = -1 then some t else ((gm_139 1 (t.1 215 5) t).bind fun q11 => some q11)) else none) = _ ∧ _
        rw [if_pos (by omega), sp_139 (by rw [t6]; unfold i32; omega), if_pos t6, Option.bind_some, t5]
        by_cases d : sgn tb L (pe tb L p) = -1
        · rw [if_pos d, if_pos d]
          exact ⟨t, rfl, CR_tr uC tC, t6, fun _ j hj => by rw [to _ _ (by omega), v3 j]; exact uph_c (eh j hj) _ _⟩
        · rw [if_neg d, if_neg d]
          exact ⟨_, rfl, CR_tr uC (CR_tr tC (CR_1 t _ (by omega))), by rw [gw1_1, if_pos ⟨rfl, rfl⟩], fun h => by omega⟩
    · obtain ⟨n, rfl⟩ : ∃ n', n = n' + 1 := ⟨n - 1, by omega⟩
      obtain ⟨t, ht⟩ : ∃ t, t = gw1 u 215 5 (u.1 215 5) := ⟨_, rfl⟩
      have tC : CR u t := by rw [ht]; exact CR_1 u _ (by omega)
      have t6 : t.1 215 6 = prt tb L T p := by rw [ht, gw1_1, if_neg (by omega)]; exact u2
      rw [if_pos ((gbD u).mpr (by rw [u2]; exact z)), if_pos z]
      show ∃ v : gx_S, gm_147_78 (gm_147_49 (n + 1)) 0 u = _ ∧ _
      rw [st _ rfl, ← ht, gm_147_49, if_pos (show (-2147483648 : Int) ≤ 0 ∧ (0 : Int) ≤ 2147483647 by decide), if_pos rfl, sp_138 (by rw [t6]; unfold i32; omega), Option.bind_some, if_pos ((gbD u).mpr (by rw [t6]; exact z))]
      exact ⟨t, rfl, CR_tr uC tC, t6, fun h => absurd h z⟩
theorem sl_147_17 : ∀ (m j : Nat) (s : gx_S), 9 < m + j → j ≤ 9 → s.1 215 4 ≤ 200 → 0 ≤ s.1 215 4 → ∃ u : gx_S, gm_147_17 m j s = gm_147_48 (if s.1 215 4 = 0 then 0 else 1) u ∧ u.2 = s.2 ∧ (∀ k i, k ≠ 220 → u.1 k i = s.1 k i) ∧ ∀ i, u.1 220 i = if j ≤ i ∧ i < 9 then 0 else s.1 220 i := by
  intro m
  induction m with
  | zero => intro j s h; omega
  | succ m ih =>
    intro j s h hj e1 e2
    rw [gm_147_17, if_pos (by omega)]
    by_cases q : j = 9
    · rw [if_pos (by omega), if_pos (by omega)]
      refine ⟨s, ?_, rfl, fun _ _ _ => rfl, fun i => by rw [if_neg (by omega)]⟩
      by_cases z : s.1 215 4 = 0
      · rw [if_pos (by omega), if_pos z]
      · rw [if_neg (by omega), if_neg z]
    · have ce : ((j : Int) + 1) = ((j + 1 : Nat) : Int) := rfl
      have i5 : ((j : Int)).toNat = j := by omega
      have x4 : (gw1 s 220 j 0).1 215 4 = s.1 215 4 := by rw [gw1_1, if_neg (by omega)]
      rw [if_neg (by omega), if_pos (by omega), i5, ce]
      obtain ⟨u, u1, u2, u3, u4⟩ := ih (j + 1) (gw1 s 220 j 0) (by omega) (by omega) (by rw [x4]; exact e1) (by rw [x4]; exact e2)
      rw [x4] at u1
      refine ⟨u, u1, u2, fun k i h1 => by rw [u3 k i h1, gw1_1, if_neg (fun x => h1 x.1)], fun i => ?_⟩
      rw [u4, gw1_1]
      by_cases y : i = j
      · rw [if_neg (show ¬ (j + 1 ≤ i ∧ i < 9) by omega), if_pos ⟨rfl, y⟩, if_pos (show j ≤ i ∧ i < 9 by omega)]
      · by_cases y2 : j + 1 ≤ i ∧ i < 9
        · rw [if_pos y2, if_pos (show j ≤ i ∧ i < 9 by omega)]
        · rw [if_neg y2, if_neg (show ¬ (220 = 220 ∧ i = j) from fun x => y x.2), if_neg (show ¬ (j ≤ i ∧ i < 9) by omega)]
theorem sp_147 {L : Nat} {tb : Nat → Int} {s : gx_S} (hT : TF s L tb) : ∃ u : gx_S, gm_147 s = some u ∧ CR s u ∧ u.1 215 6 = (ctw tb L).1 ∧ ((ctw tb L).1 = -1 → ∀ j, j < 9 → u.1 220 j = (ctw tb L).2 j) := by
  have hL := hT.1
  obtain ⟨b, hb⟩ : ∃ b, b = gw1 (gw1 (gw1 s 215 5 0) 215 6 (-1)) 215 11 0 := ⟨_, rfl⟩
  have bC : CR s b := by rw [hb]; exact CR_tr (CR_1 s _ (by omega)) (CR_tr (CR_1 _ _ (by omega)) (CR_1 _ _ (by omega)))
  have b5 : b.1 215 5 = ((0 : Nat) : Int) := by rw [hb, gw1_1, if_neg (by omega), gw1_1, if_neg (by omega), gw1_1, if_pos ⟨rfl, rfl⟩]; rfl
  have b6 : b.1 215 6 = -1 := by rw [hb, gw1_1, if_neg (by omega), gw1_1, if_pos ⟨rfl, rfl⟩]
  have b11 : b.1 215 11 = 0 := by rw [hb, gw1_1, if_pos ⟨rfl, rfl⟩]
  have bT := CR_TF bC hT
  obtain ⟨a, a1, a2, a3, a4⟩ := sl_147_17 100000 0 b (by omega) (by omega) (by rw [bT.2.1]; omega) (by rw [bT.2.1]; omega)
  have a1 : gm_147_17 100000 0 b = _ := a1
  have aC : CR b a := ⟨a2, fun k j q1 q2 => a3 k j q1⟩
  have aT := CR_TF aC bT
  have a220 : ∀ j, j < 9 → a.1 220 j = 0 := fun j hj => by rw [a4, if_pos (by omega)]
  have a5 : a.1 215 5 = ((0 : Nat) : Int) := by rw [a3 _ _ (by decide)]; exact b5
  have a6 : a.1 215 6 = -1 := by rw [a3 _ _ (by decide)]; exact b6
  have a11 : a.1 215 11 = 0 := by rw [a3 _ _ (by decide)]; exact b11
  unfold gm_147 ctw
  rw [← hb, a1, bT.2.1]
  by_cases z : L = 0
  · rw [if_pos (show (L : Int) = 0 by omega), if_pos z]
    refine ⟨a, ?_, CR_tr bC aC, a6, fun _ j hj => a220 j hj⟩
    have sg0 : sgn tb L 0 = -1 := if_neg (by omega)
    unfold gm_147_48
    rw [gm_147_49, if_pos (show (-2147483648 : Int) ≤ 0 ∧ (0 : Int) ≤ 2147483647 by decide), if_pos rfl, sp_138 (by rw [a6]; unfold i32; omega), Option.bind_some, if_neg (fun q => (gbD a).mp q a6)]
    show ((gm_137 a).bind _) = _
    rw [sp_137 aT (by omega) a5, Option.bind_some, sg0, if_pos (show (-2147483648 : Int) ≤ -1 ∧ (-1 : Int) ≤ 2147483647 by decide), if_pos rfl]
  · obtain ⟨u, u1, u2, u3, u4⟩ := sl_147_49 51 0 100000 0 (fun _ => 0) a (by omega) (by omega) (by omega) aT a5 a6 a11 a220
    rw [if_neg (show ¬ (L : Int) = 0 by omega), if_neg z]
    exact ⟨u, u1, CR_tr bC (CR_tr aC u2), u3, u4⟩
end
section
/-! CALLS: texts taken on both sides -/
def CX (s u : gx_S) : Prop := u.2 = s.2 ∧ ∀ k j, k ≠ 219 → k ≠ 220 → ¬ (k = 215 ∧ 5 ≤ j ∧ j ≤ 11) → u.1 k j = s.1 k j
theorem CR_CX {s u : gx_S} (h : CR s u) : CX s u := ⟨h.1, fun k j q1 q2 q3 => h.2 k j q2 (by omega)⟩
theorem RV_CX {s u : gx_S} {f : Nat → Int} {n L : Nat} {pf : Nat → Nat → Int} {tb : Nat → Int} (k : CX s u) (h : RV s f n pf L tb) : RV u f n pf L tb := by
  obtain ⟨h1, ⟨h2, h3⟩, h4, h5, h6⟩ := h
  refine ⟨?_, ⟨(k.2 _ _ (by omega) (by omega) (by omega)).trans h2, fun k' hk i hi => (k.2 _ _ (by omega) (by omega) (by omega)).trans (h3 k' hk i hi)⟩, (k.2 _ _ (by omega) (by omega) (by omega)).trans h4, fun i hi => by rw [k.2 218 i (by omega) (by omega) (by omega)]; exact h5 i hi, ⟨fun j hj => ?_, fun c hc => ?_, fun i hi => ?_⟩⟩
  · funext i
    rw [k.2 216 i (by omega) (by omega) (by omega), h1]
  · rw [k.2 232 j (by omega) (by omega) (by omega), k.2 233 j (by omega) (by omega) (by omega), k.2 234 j (by omega) (by omega) (by omega), k.1]
    exact h6.1 j hj
  · rw [k.2 235 c (by omega) (by omega) (by omega), k.1]
    exact h6.2.1 c hc
  · rw [k.1]
    exact h6.2.2 i hi
theorem RV_0 {s : gx_S} {f : Nat → Int} {n L : Nat} {pf : Nat → Nat → Int} {tb : Nat → Int} (h : RV s f n pf L tb) : RV (gw1 s 215 4 0) f n pf 0 tb := by
  obtain ⟨h1, ⟨h2, h3⟩, h4, h5, h6⟩ := h
  refine ⟨?_, ⟨by rw [gw1_1, if_neg (by omega)]; exact h2, fun k' hk i hi => by rw [gw1_1, if_neg (by omega)]; exact h3 k' hk i hi⟩, by rw [gw1_1, if_pos ⟨rfl, rfl⟩]; rfl, fun i hi => absurd hi (by omega), ⟨fun j hj => ?_, fun c hc => ?_, fun i hi => h6.2.2 i hi⟩⟩
  · funext i
    rw [gw1_1, if_neg (by omega), h1]
  · rw [gw1_1, if_neg (by omega), gw1_1, if_neg (by omega), gw1_1, if_neg (by omega)]
    exact h6.1 j hj
  · rw [gw1_1, if_neg (by omega)]
    exact h6.2.1 c hc
theorem CV_0 {s u : gx_S} {f : Nat → Int} {R C n L : Nat} {pf : Nat → Nat → Int} {tb : Nat → Int} (o : ∀ k j, ¬ (58 ≤ k ∧ k ≤ 61) → u.1 k j = s.1 k j) (h : CV s f R C n pf L tb) : CV (gw1 u 14 1 0) f R C n pf 0 tb := by
  obtain ⟨h1, h2, h3, h4, h5⟩ := CV_o (u := u) (fun k j q => o k j (by omega)) h
  have o2 : ∀ k j, ¬ k = 14 → (gw1 u 14 1 0).1 k j = u.1 k j := fun k j q => by rw [gw1_1, if_neg (by omega)]
  refine ⟨MR_o (fun k j q1 q2 => o2 k j (by omega)) h1, fun g hg => ?_, HC_o (fun k j q1 q2 => o2 k j (by omega)) h3, by rw [gw1_1, if_pos ⟨rfl, rfl⟩]; rfl, fun i hi => absurd hi (by omega)⟩
  obtain ⟨D, z⟩ := h2 g hg
  exact ⟨D, GGD_o (fun k j q1 q2 => o2 k j (by omega)) z⟩
theorem KC_0 {s u : gx_S} (e : u.2 = s.2) (o : ∀ k j, ¬ (58 ≤ k ∧ k ≤ 61) → u.1 k j = s.1 k j) : KC s (gw1 u 14 1 0) := ⟨fun k j q => by rw [gw1_1, if_neg (by omega), o k j (by omega)], fun k j _ => by rw [gw1_2, e]⟩
theorem CV_TC {s : gx_S} {f : Nat → Int} {R C n L : Nat} {pf : Nat → Nat → Int} {tb : Nat → Int} (c : CV s f R C n pf L tb) (v : AV f R C L tb) : TC s L tb := ⟨v.2.1, c.2.2.2.1, fun i hi => ⟨c.2.2.2.2 i hi, v.2.2 i hi⟩⟩
theorem RV_TF {s : gx_S} {f : Nat → Int} {R C n L : Nat} {pf : Nat → Nat → Int} {tb : Nat → Int} (r : RV s f n pf L tb) (v : AV f R C L tb) : TF s L tb := ⟨v.2.1, r.2.2.1, fun i hi => ⟨r.2.2.2.1 i hi, v.2.2 i hi⟩⟩
/-- an act behind a text -/
theorem act_pre3 {s : gx_S} {f : Nat → Int} {R C n L : Nat} {pf : Nat → Nat → Int} {tb : Nat → Int} (c : CV s f R C n pf L tb) (v : AV f R C L tb) (e : s.1 216 = f) : ∃ u : gx_S, gm_119 s = some u ∧ u.2 = s.2 ∧ MR u 1 f R C ∧ u.1 216 = f ∧ (∀ k j, ¬ (16 ≤ k ∧ k ≤ 57) → ¬ ((k = 71 ∨ k = 119 ∨ k = 167) ∧ j = 8) → u.1 k j = s.1 k j) ∧ ∀ u' t : gx_S, (∀ k j, 6 ≤ k → u'.1 k j = u.1 k j) → u'.2 = u.2 → KF u' t → RV t f n pf L tb → ∃ w : gx_S, gm_132 t = some w ∧ w.1 216 = f ∧ (∀ k i, k ≠ 217 → ¬ (k = 215 ∧ i = 2) → w.1 k i = t.1 k i) ∧ ∀ (w' : gx_S) (fn : Nat → Int) (R' C' : Nat), (∀ k j, k ≠ 216 → w'.1 k j = w.1 k j) → w'.2 = w.2 → MP fn R' C' → MR u' 1 fn R' C' → (∀ i, i < 340 → w'.1 216 i = fn i) → INV w' := by
  obtain ⟨u, u1, u2, u3, u4⟩ := sp_119 v.1 c
  have eu : u.1 216 = f := by
    funext q
    rw [u4 216 q (by omega) (by omega), e]
  refine ⟨u, u1, u3, u2.1, eu, u4, fun u' t h1 h2 kt rv => ?_⟩
  obtain ⟨w, w1, w2, w3, w4⟩ := sp_132 c.2.2.1.1 rv.2.1
  rw [rv.1] at w4
  have ew : w.1 216 = f := by
    funext q
    rw [w3 216 q (by decide) (by omega), rv.1]
  refine ⟨w, w1, ew, w3, fun w' fn R' C' k1 k2 hM hR e => ?_⟩
  obtain ⟨a1, a2, a3, a4, a5⟩ := u2
  have ca : CW u' fn R' C' (nn n) (pn n pf f) L tb := ⟨hR, fun g hg => ⟨by rw [h1 _ _ (by omega)]; exact (a2 g hg).1, by rw [h1 _ _ (by omega)]; exact (a2 g hg).2⟩, HC_o (fun k j q1 q2 => h1 k j (by omega)) a3, by rw [h1 _ _ (by omega)]; exact a4, fun q hq => by rw [h1 _ _ (by omega)]; exact a5 q hq⟩
  have kf : KF u' w' := KF_tr kt ⟨fun k j q => by rw [k1 k j (by omega)]; exact w3 k j (by omega) (by omega), fun k j _ => by rw [k2, w2]⟩
  obtain ⟨r1, r2, r3, r4, r5⟩ := rv
  refine ⟨w'.1 216, R', C', nn n, pn n pf f, L, tb, CW_CV hM e (CW_KF kf ca), ⟨rfl, ⟨by rw [k1 _ _ (by omega)]; exact w4.1, fun q hq p hp => by rw [k1 _ _ (by omega)]; exact w4.2 q hq p hp⟩, by rw [k1 _ _ (by omega), w3 215 4 (by decide) (by omega)]; exact r3, fun p hp => by rw [k1 _ _ (by omega), w3 218 p (by decide) (by omega)]; exact r4 p hp, ⟨fun p hp => ?_, fun d hd => ?_, fun p hp => ?_⟩⟩, MP_c e hM, v.2⟩
  · rw [k1 _ _ (by omega), k1 _ _ (by omega), k1 _ _ (by omega), w3 232 p (by decide) (by omega), w3 233 p (by decide) (by omega), w3 234 p (by decide) (by omega), k2, w2]
    exact r5.1 p hp
  · rw [k1 _ _ (by omega), w3 235 d (by decide) (by omega), k2, w2]
    exact r5.2.1 d hd
  · rw [k2, w2]
    exact r5.2.2 p hp
theorem sl_149_41 {g : Nat} (hg : g < 3) {H : Nat → Int} : ∀ (m j : Nat) (s : gx_S), 9 < m + j → j ≤ 9 → (∀ i, i < 9 → s.1 220 i = H i) → ∃ u : gx_S, gm_149_41 m g (sg H j) j s = some (sg H 9, u) ∧ u.2 = s.2 ∧ (∀ k i, k ≠ 216 → u.1 k i = s.1 k i) ∧ ∀ i, u.1 216 i = if 5 + 9 * g + j ≤ i ∧ i < 14 + 9 * g then H (i - 5 - 9 * g) else s.1 216 i := by
  intro m
  induction m with
  | zero => intro j s h; omega
  | succ m ih =>
    intro j s h hj e
    rw [gm_149_41, if_pos (by omega)]
    by_cases q : j = 9
    · rw [if_pos (by omega), q]
      exact ⟨s, rfl, rfl, fun _ _ _ => rfl, fun i => by rw [if_neg (by omega)]⟩
    · have ce : ((j : Int) + 1) = ((j + 1 : Nat) : Int) := rfl
      have i5 : ((j : Int)).toNat = j := by omega
      have i6 : ((5 + (9 * (g : Int))) + (j : Int)).toNat = 5 + 9 * g + j := by omega
      have x2 : (gw1 s 216 (5 + 9 * g + j) (H j)).1 220 j = H j := by rw [gw1_1, if_neg (by omega), e j (by omega)]
      rw [if_neg (by omega), if_pos (by omega), if_pos (by omega), i5, i6, ce, e j (by omega), x2, show sg H j + H j = sg H (j + 1) from rfl]
      obtain ⟨u, u1, u2, u3, u4⟩ := ih (j + 1) (gw1 s 216 (5 + 9 * g + j) (H j)) (by omega) (by omega) (fun i hi => by rw [gw1_1, if_neg (by omega), e i hi])
      refine ⟨u, u1, u2, fun k i h1 => by rw [u3 k i h1, gw1_1, if_neg (fun x => h1 x.1)], fun i => ?_⟩
      rw [u4, gw1_1]
      by_cases y : i = 5 + 9 * g + j
      · rw [if_neg (show ¬ (5 + 9 * g + (j + 1) ≤ i ∧ i < 14 + 9 * g) by omega), if_pos ⟨rfl, y⟩, if_pos (show 5 + 9 * g + j ≤ i ∧ i < 14 + 9 * g by omega), y, show 5 + 9 * g + j - 5 - 9 * g = j by omega]
      · by_cases y2 : 5 + 9 * g + (j + 1) ≤ i ∧ i < 14 + 9 * g
        · rw [if_pos y2, if_pos (show 5 + 9 * g + j ≤ i ∧ i < 14 + 9 * g by omega)]
        · rw [if_neg y2, if_neg (show ¬ (216 = 216 ∧ i = 5 + 9 * g + j) from fun x => y x.2), if_neg (show ¬ (5 + 9 * g + j ≤ i ∧ i < 14 + 9 * g) by omega)]
/-- the map with another group's counts -/
def fc (f : Nat → Int) (g : Nat) (H : Nat → Int) (i : Nat) : Int := if 5 + 9 * g ≤ i ∧ i < 14 + 9 * g then H (i - 5 - 9 * g) else f i
theorem MP_fc {f : Nat → Int} {R C g : Nat} {H : Nat → Int} (M : MP f R C) (hg : g < 3) (hH : ∀ j, 0 ≤ H j ∧ H j ≤ 9999) : MP (fc f g H) R C := by
  obtain ⟨m1, m2, m3, m4, m5, m6, m7, m8, m10⟩ := M
  have o : ∀ i, ¬ (5 ≤ i ∧ i < 32) → fc f g H i = f i := fun i h => by
    unfold fc
    rw [if_neg (by omega)]
  refine ⟨by rw [o 0 (by omega), o 1 (by omega)]; exact m1, by rw [o 2 (by omega)]; exact m2, by rw [o 3 (by omega)]; exact m3, by rw [o 4 (by omega)]; exact m4, fun x hx => ?_, fun i hi => by rw [o _ (by omega)]; exact m6 i hi, fun i hi => by rw [o _ (by omega)]; exact m7 i hi, fun l hl b k hk => by rw [o _ (by omega)]; exact m8 l hl (by rw [o _ (by omega)] at b; exact b) k hk, by rw [o _ (by omega)]; exact m10⟩
  by_cases e : x = g
  · have c : ∀ z, z < 9 → fc f g H (5 + 9 * x + z) = H z := fun z hz => by
      unfold fc
      rw [if_pos (by omega), e, show 5 + 9 * g + z - 5 - 9 * g = z by omega]
    refine ⟨fun z hz => by rw [c z hz]; exact (hH z).1, ?_⟩
    rw [sg_eq (g := H) c]
    exact Int.le_trans (sg_le (g := fun _ => 9999) fun z hz => (hH z).2) (by decide)
  · have c : ∀ z, z < 9 → fc f g H (5 + 9 * x + z) = f (5 + 9 * x + z) := fun z hz => by
      unfold fc
      rw [if_neg (by omega)]
    refine ⟨fun z hz => by rw [c z hz]; exact (m5 x hx).1 z hz, ?_⟩
    rw [sg_eq (g := fun z => f (5 + 9 * x + z)) c]
    exact (m5 x hx).2
theorem inv_counts {s : gx_S} (h : INV s) {x : Int} (hx : i32 x) : two s (gm_88 x) (gm_149 x) := by
  obtain ⟨f, R, C, n, pf, L, tb, c, r, v⟩ := id h
  have hx' := hx
  unfold i32 at hx'
  have hL := v.2.1
  have cT := CV_TC c v
  have v0 : AV f R C 0 tb := ⟨v.1, by omega, fun i hi => absurd hi (by omega)⟩
  unfold two gm_88 gm_149
  rw [sp_114 s hx, Option.bind_some]
  by_cases a : 0 ≤ x ∧ x < 3
  · obtain ⟨g, rfl⟩ : ∃ g : Nat, x = g := ⟨x.toNat, by omega⟩
    rw [if_pos (fun q => (gbD s).mp q a)]
    obtain ⟨u, u1, uC, ur, u2⟩ := sp_4 cT
    show ∃ (r : Int) (u' w : gx_S), ((gm_4 s).bind _) = some (r, u') ∧ _
    rw [u1, Option.bind_some]
    have uo : ∀ k j, ¬ (58 ≤ k ∧ k ≤ 61) → u.1 k j = s.1 k j := fun k j q => uC.2 k j (by omega) (by omega)
    have c0 := CV_0 uo c
    have k0 := KC_0 uC.1 uo
    have r0 := RV_KC k0 r
    obtain ⟨b, hb⟩ : ∃ b, b = gw1 u 14 1 0 := ⟨_, rfl⟩
    rw [← hb] at c0 k0 r0
    -- what the reference does before it acts
    have ref : ∀ t : gx_S, RV t f n pf L tb → ∃ w : gx_S, KF t w ∧ RV w f n pf 0 tb ∧ w.1 215 6 = (ctw tb L).1 ∧ ((ctw tb L).1 = -1 → ∀ j, j < 9 → w.1 220 j = (ctw tb L).2 j) ∧ (((gm_148 g t).bind fun q22 => if ¬ (gb q22.1) = 0 then ((gm_147 q22.2).bind fun q25 => (gm_138 (gw1 q25 215 4 0)).bind fun q27 => if ¬ (gb q27.1) = 0 then ((gm_132 q27.2).bind fun q30 => gm_149_41 100000 g 0 0 q30) else (some (((-2) - (q27.2.1 215 6)), q27.2))) else (some ((-1), q22.2))) : Option (Int × gx_S)) = if (ctw tb L).1 = -1 then ((gm_132 w).bind fun q30 => gm_149_41 100000 g 0 0 q30) else some (-2 - (ctw tb L).1, w) := fun t rt => by
      obtain ⟨y, y1, y2, y3, y4⟩ := sp_147 (RV_TF rt v)
      obtain ⟨w, hw⟩ : ∃ w, w = gw1 y 215 4 0 := ⟨_, rfl⟩
      have wo : ∀ k j, ¬ (k = 215 ∧ j = 4) → w.1 k j = y.1 k j := fun k j q => by rw [hw, gw1_1, if_neg q]
      have w6 : w.1 215 6 = (ctw tb L).1 := by rw [wo _ _ (by omega), y3]
      refine ⟨w, ⟨fun k j q => by rw [wo _ _ (by omega), y2.2 k j (by omega) (by omega)], fun k j q => by rw [hw, gw1_2, y2.1]⟩, by rw [hw]; exact RV_0 (RV_CX (CR_CX y2) rt), w6, fun q j hj => by rw [wo _ _ (by omega), y4 q j hj], ?_⟩
      rw [sp_148 t (by unfold i32; omega), Option.bind_some, if_pos (fun q => (gbD t).mp q (by omega))]
      show ((gm_147 t).bind _) = _
      rw [y1, Option.bind_some, ← hw, sp_138 (by rw [w6]; unfold i32; omega), Option.bind_some]
      show (if ¬ (gb (decide (w.1 215 6 = -1))) = 0 then ((gm_132 w).bind fun q30 => gm_149_41 100000 g 0 0 q30) else (some (((-2) - (w.1 215 6)), w))) = _
      rw [w6]
      by_cases z : (ctw tb L).1 = -1
      · rw [if_pos (fun q => (gbD t).mp q z), if_pos z]
      · rw [if_neg (fun q => q ((gbD t).mpr z)), if_neg z]
    show ∃ (r : Int) (u' w : gx_S), (if (-2147483648 ≤ (ctw tb L).1 ∧ (ctw tb L).1 ≤ 2147483647) then (if (ctw tb L).1 = -1 then ((gm_119 (gw1 u 14 1 0)).bind fun q23 => if 0 ≤ (0 : Int) ∧ 0 ≤ ((g * 9) : Int) ∧ 0 ≤ (9 : Int) ∧ (0 : Int) + 9 ≤ 9 ∧ ((g * 9) : Int) + 9 ≤ 27 then ((gm_66 1 g (gcp q23 61 0 3 ((g * 9) : Int).toNat 9)).bind fun q28 => some (q28.1, q28.2)) else none) else some (((-2) - (ctw tb L).1), (gw1 u 14 1 0))) else none) = some (r, u') ∧ _
    rw [if_pos (by omega), ← hb]
    by_cases z : (ctw tb L).1 = -1
    · have fr := ctw_r (fun p => (sgn_r cT p).1) hL
      have e0 : b.1 216 = f := r0.1
      obtain ⟨d, d1, d2, d3, d4, d5, d6⟩ := act_pre3 c0 v0 e0
      have i2 : ((g : Int) * 9).toNat = 9 * g := by omega
      rw [if_pos z, d1, Option.bind_some, if_pos (by omega), i2]
      obtain ⟨u', hu'⟩ : ∃ u', u' = gcp d 61 0 3 (9 * g) 9 := ⟨_, rfl⟩
      have uk : ∀ k j, k ≠ 3 → u'.1 k j = d.1 k j := fun k j q => by rw [hu', gcp_1, if_neg (by omega)]
      have u3 : ∀ j, u'.1 3 j = if 9 * g ≤ j ∧ j < 9 * g + 9 then (ctw tb L).2 (j - 9 * g) else d.1 3 j := fun j => by
        rw [hu', gcp_1]
        by_cases y : 9 * g ≤ j ∧ j < 9 * g + 9
        · rw [if_pos (by omega), if_pos y, d5 _ _ (by omega) (by omega), hb, gw1_1, if_neg (by omega), show 0 + (j - 9 * g) = j - 9 * g by omega, u2 z _ (by omega)]
        · rw [if_neg (by omega), if_neg y]
      have ue : u'.2 = d.2 := by rw [hu']; rfl
      rw [← hu']
      have mr : MR u' 1 (fc f g (ctw tb L).2) R C := by
        obtain ⟨m1, m2, m3, m4, m5, m6, m7, m8, m9⟩ := d3
        have o : ∀ i, ¬ (5 ≤ i ∧ i < 32) → fc f g (ctw tb L).2 i = f i := fun i h => by
          unfold fc
          rw [if_neg (by omega)]
        refine ⟨by rw [uk _ _ (by omega), o 0 (by omega)]; exact m1, by rw [uk _ _ (by omega), o 1 (by omega)]; exact m2, by rw [uk _ _ (by omega), o 2 (by omega)]; exact m3, by rw [uk _ _ (by omega), o 3 (by omega)]; exact m4, by rw [uk _ _ (by omega), o 4 (by omega)]; exact m5, fun i hi => ?_, fun i hi => by rw [uk _ _ (by omega), o _ (by omega)]; exact m7 i hi, fun i hi => by rw [uk _ _ (by omega), o _ (by omega)]; exact m8 i hi, fun l hl bb k hk => by rw [uk _ _ (by omega), o _ (by omega)]; exact m9 l hl (by rw [o _ (by omega)] at bb; exact bb) k hk⟩
        rw [show (1 : Nat) + 2 = 3 from rfl, u3]
        unfold fc
        by_cases y : 9 * g ≤ i ∧ i < 9 * g + 9
        · rw [if_pos y, if_pos (by omega), show 5 + i - 5 - 9 * g = i - 9 * g by omega]
        · rw [if_neg y, if_neg (by omega)]
          exact m6 i hi
      have kc : KC b u' := ⟨fun k j q => by rw [uk k j (by omega), d5 k j (by omega) (by omega)], fun k j _ => by rw [ue, d2]⟩
      obtain ⟨w, w1, w2, w3, w4, w5⟩ := ref u' (RV_KC kc r0)
      obtain ⟨y, y1, y2, y3, y4⟩ := d6 u' w (fun k j q => uk k j (by omega)) ue w1 w2
      obtain ⟨p, p1, p2, p3, p4⟩ := sl_149_41 (g := g) (by omega) (H := (ctw tb L).2) 100000 0 y (by omega) (by omega) (fun i hi => by rw [y3 220 i (by decide) (by omega), w4 z i hi])
      have p1 : gm_149_41 100000 g 0 0 y = _ := p1
      refine ⟨sg (ctw tb L).2 9, u', p, ?_, ?_, y4 p (fc f g (ctw tb L).2) R C p3 p2 (MP_fc v.1 (by omega) fr) mr fun i hi => ?_⟩
      · rw [sp_66g mr (by omega), Option.bind_some]
        have e : sg (fun z => fc f g (ctw tb L).2 (5 + 9 * g + z)) 9 = sg (ctw tb L).2 9 := sg_eq fun j hj => by
          unfold fc
          rw [if_pos (by omega), show 5 + 9 * g + j - 5 - 9 * g = j by omega]
        show some (sg (fun z => fc f g (ctw tb L).2 (5 + 9 * g + z)) 9, u') = _
        rw [e]
      · rw [w5, if_pos z, y1, Option.bind_some, p1]
      · rw [p4, y2]
        rfl
    · rw [if_neg z]
      obtain ⟨w, w1, w2, w3, w4, w5⟩ := ref b r0
      exact ⟨_, b, w, rfl, w5.trans (if_neg z), f, R, C, n, pf, 0, tb, CV_KF w1 c0, w2, v0⟩
  · rw [if_neg (fun q => q ((gbD s).mpr a))]
    refine ⟨-1, s, s, rfl, ?_, h⟩
    rw [sp_148 s hx, Option.bind_some, if_neg (fun q => q ((gbD s).mpr (by omega)))]
end
section
/-! TEXTS of layers: the class's reading -/
def lv_ (l : Nat) (x : Int) : Int := if l = 2 then (if 48 ≤ x ∧ x ≤ 51 then x - 48 else -1) else if x = 46 then 8 else if 97 ≤ x ∧ x ≤ 104 then x - 97 else -1
theorem lvr_ (l : Nat) (x : Int) : -1 ≤ lv_ l x ∧ lv_ l x ≤ (if l = 2 then 3 else 8) := by
  unfold lv_
  by_cases a : l = 2
  · rw [if_pos a, if_pos a]
    split <;> omega
  · rw [if_neg a, if_neg a]
    split
    · omega
    · split <;> omega
def up2 (h : Nat → Nat → Int) (r c : Nat) (v : Int) (i j : Nat) : Int := if i = r ∧ j = c then v else h i j
/-- a layer, from place p on, in row r with c signs; K: is the width w known -/
def lyt (tb : Nat → Int) (L l M : Nat) : Nat → Nat → Nat → Nat → Nat → Nat → (Nat → Nat → Int) → Int × Nat × Nat × (Nat → Nat → Int)
  | 0, _, r, c, _, _, h => (-1, r, c, h)
  | k + 1, p, r, c, K, w, h =>
    if ¬ lv_ l (sgn tb L p) = -1 then
      if w ≤ c then (8 * (p : Int) + 3, r, c, h) else lyt tb L l M k (p + 1) r (c + 1) K w (up2 h r c (lv_ l (sgn tb L p)))
    else if c = 0 ∨ ¬ (sgn tb L p = 47 ∨ sgn tb L p = -1) then (8 * (p : Int) + 1, r, c, h)
    else if K = 1 ∧ c < w then (8 * (p : Int) + 2, r, c, h)
    else if sgn tb L p = 47 then (if M ≤ r + 1 then (8 * (p : Int) + 3, r, c, h) else lyt tb L l M k (p + 1) (r + 1) 0 1 c h)
    else if ¬ l = 0 ∧ r + 1 < M then (8 * (p : Int) + 4, r, c, h) else (-1, r + 1, c, h)
theorem sp_35 (s : gx_S) {l : Nat} {x : Int} (hl : l < 3) (h : i32 x) : gm_35 x l s = some (lv_ l x, s) := by
  unfold i32 at h
  unfold gm_35 lv_
  rw [if_pos (by omega)]
  by_cases a : l = 2
  · rw [if_neg (by omega), if_pos a, if_pos h]
    by_cases b : x < 48
    · rw [if_pos b, if_neg (by omega)]
    · rw [if_neg b]
      by_cases c : 51 < x
      · rw [if_pos c, if_neg (by omega)]
      · rw [if_neg c, if_pos (by omega)]
  · rw [if_pos (by omega), if_neg a, if_pos h]
    by_cases d : x = 46
    · rw [if_neg (fun t => t d), if_pos d]
    · rw [if_pos d, if_neg d]
      by_cases b : x < 97
      · rw [if_pos b, if_neg (by omega)]
      · rw [if_neg b]
        by_cases c : 104 < x
        · rw [if_pos c, if_neg (by omega)]
        · rw [if_neg c, if_pos (by omega)]
def CLy (s u : gx_S) : Prop := u.2 = s.2 ∧ ∀ k j, k ≠ 58 → k ≠ 59 → u.1 k j = s.1 k j
theorem CLy_tr {s t u : gx_S} (a : CLy s t) (b : CLy t u) : CLy s u := ⟨b.1.trans a.1, fun k j h1 h2 => (b.2 k j h1 h2).trans (a.2 k j h1 h2)⟩
theorem CLy_TC {s u : gx_S} {L : Nat} {tb : Nat → Int} (a : CLy s u) (T : TC s L tb) : TC u L tb := TC_o (a.2 _ _ (by omega) (by omega)) (fun i => a.2 _ _ (by omega) (by omega)) T
/-- what is read so far -/
def LSt (s : gx_S) (l M r c K w : Nat) (h : Nat → Nat → Int) : Prop := s.1 58 1 = r ∧ s.1 58 2 = w ∧ s.1 58 3 = c ∧ s.1 58 4 = M ∧ s.1 58 5 = K ∧ s.1 58 6 = (if l = 0 then 0 else 1) ∧ ∀ i j, (i < r ∧ j < w) ∨ (i = r ∧ j < c) → s.1 59 (i * w + j) = h i j
/-- the wrong of a place -/
def wr_ (tb : Nat → Int) (L l M p r c K w : Nat) : Int :=
  if ¬ lv_ l (sgn tb L p) = -1 then (if w ≤ c then 3 else 0)
  else if c = 0 ∨ ¬ (sgn tb L p = 47 ∨ sgn tb L p = -1) then 1
  else if K = 1 ∧ c < w then 2
  else if sgn tb L p = 47 then (if M ≤ r + 1 then 3 else 0)
  else if ¬ l = 0 ∧ r + 1 < M then 4 else 0
theorem sp_36 {s : gx_S} {l M r c K w : Nat} {h : Nat → Nat → Int} (S : LSt s l M r c K w h) (hc : c ≤ 12) (hw : w ≤ 12) : gm_36 s = some (if w ≤ c then 3 else 0, s) := by
  unfold gm_36
  rw [S.2.2.1, S.2.1, if_pos (by omega), if_pos (by omega)]
  by_cases a : w ≤ c
  · rw [if_neg (by omega), if_pos a]
  · rw [if_pos (by omega), if_neg a]
theorem sp_37 {s : gx_S} {l M r c K w : Nat} {h : Nat → Nat → Int} {x : Int} (S : LSt s l M r c K w h) (hc : c ≤ 12) (hw : w ≤ 12) (hr : r ≤ 8) (hM : M ≤ 8) (hK : K = 0 ∨ K = 1) (hx : i32 x) : gm_37 x s = some (if c = 0 ∨ ¬ (x = 47 ∨ x = -1) then 1 else if K = 1 ∧ c < w then 2 else if x = 47 then (if M ≤ r + 1 then 3 else 0) else if ¬ l = 0 ∧ r + 1 < M then 4 else 0, s) := by
  obtain ⟨s1, s2, s3, s4, s5, s6, s7⟩ := S
  unfold i32 at hx
  unfold gm_37
  rw [s3, if_pos (by omega)]
  by_cases a : c = 0
  · rw [if_pos (by omega), if_pos (.inl a)]
  · rw [if_neg (by omega), if_pos hx]
    have g40 : gm_37_40 x s = some (if x = 47 then (if M ≤ r + 1 then 3 else 0) else if ¬ l = 0 ∧ r + 1 < M then 4 else 0, s) := by
      unfold gm_37_40
      rw [if_pos hx, s1, s4, s6]
      by_cases b : x = 47
      · rw [if_neg (fun t => t b), if_pos b, if_pos (by omega), if_pos (by omega)]
        by_cases d : M ≤ r + 1
        · rw [if_neg (by omega), if_pos d]
        · rw [if_pos (by omega), if_neg d]
      · rw [if_pos b, if_neg b]
        by_cases d : l = 0
        · rw [if_pos d, if_pos (show (-2147483648 : Int) ≤ 0 ∧ (0 : Int) ≤ 2147483647 by decide), if_pos rfl, if_neg (fun t => t.1 d)]
        · rw [if_neg d, if_pos (show (-2147483648 : Int) ≤ 1 ∧ (1 : Int) ≤ 2147483647 by decide), if_neg (show ¬ (1 : Int) = 0 by decide), if_pos (by omega), if_pos (by omega)]
          by_cases e : r + 1 < M
          · rw [if_neg (by omega), if_pos ⟨d, e⟩]
          · rw [if_pos (by omega), if_neg (fun t => e t.2)]
    have g20 : gm_37_20 x s = some (if K = 1 ∧ c < w then 2 else if x = 47 then (if M ≤ r + 1 then 3 else 0) else if ¬ l = 0 ∧ r + 1 < M then 4 else 0, s) := by
      unfold gm_37_20
      rw [s5, s3, s2, g40, if_pos (by omega)]
      by_cases b : K = 0
      · rw [if_pos (by omega), if_neg (show ¬ (K = 1 ∧ c < w) by omega)]
      · rw [if_neg (show ¬ (K : Int) = 0 by omega), if_pos (show -2147483648 ≤ (c : Int) ∧ (c : Int) ≤ 2147483647 by omega), if_pos (show -2147483648 ≤ (w : Int) ∧ (w : Int) ≤ 2147483647 by omega)]
        by_cases d : w ≤ c
        · rw [if_pos (show (w : Int) ≤ (c : Int) by omega), if_neg (show ¬ (K = 1 ∧ c < w) by omega)]
        · rw [if_neg (show ¬ (w : Int) ≤ (c : Int) by omega), if_pos (show K = 1 ∧ c < w by omega)]
    rw [g20]
    by_cases b : x = 47
    · rw [if_pos b, if_neg (show ¬ (c = 0 ∨ ¬ (x = 47 ∨ x = -1)) by omega)]
    · rw [if_neg b]
      by_cases d : x = -1
      · rw [if_pos d, if_neg (show ¬ (c = 0 ∨ ¬ (x = 47 ∨ x = -1)) by omega)]
      · rw [if_neg d, if_pos (show c = 0 ∨ ¬ (x = 47 ∨ x = -1) by omega)]
/-- how the reading stands -/
def LI (M r c K w : Nat) : Prop := r < M ∧ M ≤ 8 ∧ c ≤ w ∧ w ≤ 12 ∧ ((K = 0 ∧ r = 0 ∧ w = 12) ∨ K = 1)
theorem sp_39 {s : gx_S} {l M r c K w : Nat} {h : Nat → Nat → Int} {v : Int} (S : LSt s l M r c K w h) (I : LI M r c K w) (hc : c < w) : ∃ u : gx_S, gm_39 v s = some u ∧ CLy s u ∧ LSt u l M r (c + 1) K w (up2 h r c v) := by
  obtain ⟨s1, s2, s3, s4, s5, s6, s7⟩ := S
  obtain ⟨i1, i2, i3, i4, i5⟩ := I
  have m1 : r * w ≤ 7 * 12 := Nat.mul_le_mul (by omega) i4
  have e : (r : Int) * (w : Int) + (c : Int) = ((r * w + c : Nat) : Int) := by
    rw [Int.natCast_add, Int.natCast_mul]
  have cc : ((c : Int) + 1) = ((c + 1 : Nat) : Int) := rfl
  unfold gm_39 gm_39_28
  rw [s1, s2, s3, e, if_pos (by omega), if_neg (by omega), if_pos (by omega), show ((r * w + c : Nat) : Int).toNat = r * w + c by omega]
  have x3 : (gw1 s 59 (r * w + c) v).1 58 3 = c := by rw [gw1_1, if_neg (by omega)]; exact s3
  rw [x3, cc]
  refine ⟨_, rfl, ⟨rfl, fun k j q1 q2 => by rw [gw1_1, if_neg (by omega), gw1_1, if_neg (by omega)]⟩, ?_, ?_, by rw [gw1_1, if_pos ⟨rfl, rfl⟩], ?_, ?_, ?_, fun i j hij => ?_⟩
  · rw [gw1_1, if_neg (by omega), gw1_1, if_neg (by omega)]; exact s1
  · rw [gw1_1, if_neg (by omega), gw1_1, if_neg (by omega)]; exact s2
  · rw [gw1_1, if_neg (by omega), gw1_1, if_neg (by omega)]; exact s4
  · rw [gw1_1, if_neg (by omega), gw1_1, if_neg (by omega)]; exact s5
  · rw [gw1_1, if_neg (by omega), gw1_1, if_neg (by omega)]; exact s6
  · rw [gw1_1, if_neg (by omega), gw1_1]
    unfold up2
    by_cases z : i = r ∧ j = c
    · rw [if_pos ⟨rfl, by rw [z.1, z.2]⟩, if_pos z]
    · have ne : ¬ (i * w + j = r * w + c) := fun q => by
        rcases hij with t | t
        · have := Nat.mul_le_mul_right w (show i + 1 ≤ r by omega)
          rw [Nat.add_mul] at this
          omega
        · rw [t.1] at q
          omega
      rw [if_neg (fun t => ne t.2), if_neg z]
      exact s7 i j (by omega)
theorem sp_38 {s : gx_S} {l M r c K w : Nat} {h : Nat → Nat → Int} (S : LSt s l M r c K w h) (I : LI M r c K w) (hk : ¬ (K = 1 ∧ c < w)) : ∃ u : gx_S, gm_38 s = some u ∧ CLy s u ∧ LSt u l M (r + 1) 0 1 c h := by
  obtain ⟨s1, s2, s3, s4, s5, s6, s7⟩ := S
  obtain ⟨i1, i2, i3, i4, i5⟩ := I
  unfold gm_38
  have x1 : (gw1 (gw1 s 58 2 (s.1 58 3)) 58 5 1).1 58 1 = r := by rw [gw1_1, if_neg (by omega), gw1_1, if_neg (by omega)]; exact s1
  rw [x1, s3]
  refine ⟨_, rfl, ⟨rfl, fun k j q1 q2 => by rw [gw1_1, if_neg (by omega), gw1_1, if_neg (by omega), gw1_1, if_neg (by omega), gw1_1, if_neg (by omega)]⟩, ?_, ?_, ?_, ?_, ?_, ?_, fun i j hij => ?_⟩
  · rw [gw1_1, if_neg (by omega), gw1_1, if_pos ⟨rfl, rfl⟩]; rfl
  · rw [gw1_1, if_neg (by omega), gw1_1, if_neg (by omega), gw1_1, if_neg (by omega), gw1_1, if_pos ⟨rfl, rfl⟩]
  · rw [gw1_1, if_pos ⟨rfl, rfl⟩]; rfl
  · rw [gw1_1, if_neg (by omega), gw1_1, if_neg (by omega), gw1_1, if_neg (by omega), gw1_1, if_neg (by omega)]; exact s4
  · rw [gw1_1, if_neg (by omega), gw1_1, if_neg (by omega), gw1_1, if_pos ⟨rfl, rfl⟩]; rfl
  · rw [gw1_1, if_neg (by omega), gw1_1, if_neg (by omega), gw1_1, if_neg (by omega), gw1_1, if_neg (by omega)]; exact s6
  · rw [gw1_1, if_neg (by omega), gw1_1, if_neg (by omega), gw1_1, if_neg (by omega), gw1_1, if_neg (by omega)]
    by_cases z : K = 1
    · have e : c = w := by omega
      rw [e]
      exact s7 i j (by omega)
    · have e : i = r := by omega
      have e0 : r = 0 := by omega
      have := s7 i j (by omega)
      rw [e, e0, Nat.zero_mul] at this ⊢
      exact this
end
section
/-! TEXTS of layers: the class's whole reading -/
theorem lyt_s (tb : Nat → Int) (L l M k p r c K w : Nat) (h : Nat → Nat → Int) : lyt tb L l M (k + 1) p r c K w h = if ¬ wr_ tb L l M p r c K w = 0 then (8 * (p : Int) + wr_ tb L l M p r c K w, r, c, h) else if ¬ lv_ l (sgn tb L p) = -1 then lyt tb L l M k (p + 1) r (c + 1) K w (up2 h r c (lv_ l (sgn tb L p))) else if sgn tb L p = 47 then lyt tb L l M k (p + 1) (r + 1) 0 1 c h else (-1, r + 1, c, h) := by
  rw [lyt]
  unfold wr_
  by_cases a : ¬ lv_ l (sgn tb L p) = -1
  · rw [if_pos a, if_pos a]
    by_cases b : w ≤ c
    · rw [if_pos b, if_pos b, if_pos (by omega)]
    · rw [if_neg b, if_neg b, if_neg (by omega), if_pos a]
  · rw [if_neg a, if_neg a]
    by_cases b : c = 0 ∨ ¬ (sgn tb L p = 47 ∨ sgn tb L p = -1)
    · rw [if_pos b, if_pos b, if_pos (by omega)]
    · rw [if_neg b, if_neg b]
      by_cases d : K = 1 ∧ c < w
      · rw [if_pos d, if_pos d, if_pos (by omega)]
      · rw [if_neg d, if_neg d]
        by_cases e : sgn tb L p = 47
        · rw [if_pos e, if_pos e]
          by_cases f : M ≤ r + 1
          · rw [if_pos f, if_pos f, if_pos (by omega)]
          · rw [if_neg f, if_neg f, if_neg (by omega), if_neg a, if_pos e]
        · rw [if_neg e, if_neg e]
          by_cases f : ¬ l = 0 ∧ r + 1 < M
          · rw [if_pos f, if_pos f, if_pos (by omega)]
          · rw [if_neg f, if_neg f, if_neg (by omega), if_neg a, if_neg e]
theorem wr_r {tb : Nat → Int} {L l M p r c K w : Nat} : (0 ≤ wr_ tb L l M p r c K w ∧ wr_ tb L l M p r c K w ≤ 4) ∧ (wr_ tb L l M p r c K w = 0 → (¬ lv_ l (sgn tb L p) = -1 → c < w) ∧ (lv_ l (sgn tb L p) = -1 → ¬ c = 0 ∧ (sgn tb L p = 47 ∨ sgn tb L p = -1) ∧ ¬ (K = 1 ∧ c < w) ∧ (sgn tb L p = 47 → r + 1 < M) ∧ (sgn tb L p = -1 → l = 0 ∨ M ≤ r + 1))) := by
  unfold wr_
  by_cases a : ¬ lv_ l (sgn tb L p) = -1
  · rw [if_pos a]
    by_cases b : w ≤ c
    · rw [if_pos b]
      exact ⟨by omega, fun h => by omega⟩
    · rw [if_neg b]
      exact ⟨by omega, fun _ => ⟨fun _ => by omega, fun h => absurd h a⟩⟩
  · rw [if_neg a]
    by_cases b : c = 0 ∨ ¬ (sgn tb L p = 47 ∨ sgn tb L p = -1)
    · rw [if_pos b]
      exact ⟨by omega, fun h => by omega⟩
    · rw [if_neg b]
      by_cases d : K = 1 ∧ c < w
      · rw [if_pos d]
        exact ⟨by omega, fun h => by omega⟩
      · rw [if_neg d]
        by_cases e : sgn tb L p = 47
        · rw [if_pos e]
          by_cases f : M ≤ r + 1
          · rw [if_pos f]
            exact ⟨by omega, fun h => by omega⟩
          · rw [if_neg f]
            exact ⟨by omega, fun _ => ⟨fun h => absurd h a, fun _ => ⟨by omega, by omega, d, fun _ => by omega, fun h => by omega⟩⟩⟩
        · rw [if_neg e]
          by_cases f : ¬ l = 0 ∧ r + 1 < M
          · rw [if_pos f]
            exact ⟨by omega, fun h => by omega⟩
          · rw [if_neg f]
            exact ⟨by omega, fun _ => ⟨fun h => absurd h a, fun _ => ⟨by omega, by omega, d, fun h => absurd h e, fun _ => by omega⟩⟩⟩
theorem LSt_58 {s u : gx_S} {l M r c K w : Nat} {h : Nat → Nat → Int} (o : ∀ k j, k = 58 ∨ k = 59 → u.1 k j = s.1 k j) (S : LSt s l M r c K w h) : LSt u l M r c K w h := by
  obtain ⟨s1, s2, s3, s4, s5, s6, s7⟩ := S
  exact ⟨(o _ _ (by omega)).trans s1, (o _ _ (by omega)).trans s2, (o _ _ (by omega)).trans s3, (o _ _ (by omega)).trans s4, (o _ _ (by omega)).trans s5, (o _ _ (by omega)).trans s6, fun i j q => (o _ _ (by omega)).trans (s7 i j q)⟩
theorem sl_34 {L l M : Nat} {tb : Nat → Int} (hl : l < 3) : ∀ (k p n r c K w : Nat) (h : Nat → Nat → Int) (s : gx_S), L < p + k → p ≤ L → k < n → TC s L tb → LSt s l M r c K w h → LI M r c K w → ∃ u : gx_S, gm_34_74 n l p s = some ((lyt tb L l M k p r c K w h).1, u) ∧ CLy s u ∧ ((lyt tb L l M k p r c K w h).1 = -1 → u.1 58 1 = (lyt tb L l M k p r c K w h).2.1 ∧ u.1 58 2 = (lyt tb L l M k p r c K w h).2.2.1 ∧ ∀ i j, i < (lyt tb L l M k p r c K w h).2.1 → j < (lyt tb L l M k p r c K w h).2.2.1 → u.1 59 (i * (lyt tb L l M k p r c K w h).2.2.1 + j) = (lyt tb L l M k p r c K w h).2.2.2 i j) := by
  intro k
  induction k with
  | zero => intro p n r c K w h s h1 h2; omega
  | succ k ih =>
    intro p n r c K w h s h1 h2 h3 hT S I
    obtain ⟨n, rfl⟩ : ∃ n', n = n' + 1 := ⟨n - 1, by omega⟩
    have hL := hT.1
    have sr := sgn_r hT p
    have vr := lvr_ l (sgn tb L p)
    obtain ⟨i1, i2, i3, i4, i5⟩ := id I
    have vr2 : -1 ≤ lv_ l (sgn tb L p) ∧ lv_ l (sgn tb L p) ≤ 8 := by
      by_cases q : l = 2
      · rw [if_pos q] at vr; omega
      · rw [if_neg q] at vr; omega
    have cp : ((p : Int) + 1) = ((p + 1 : Nat) : Int) := rfl
    obtain ⟨wa, wb⟩ := wr_r (tb := tb) (L := L) (l := l) (M := M) (p := p) (r := r) (c := c) (K := K) (w := w)
    -- one place
    have one : gm_34_74 (n + 1) l p s = gm_34_118 (gm_34_74 n) l p (lv_ l (sgn tb L p)) (wr_ tb L l M p r c K w) s := by
      rw [gm_34_74, if_pos (by omega), hT.2.1, if_pos (by omega), if_neg (by omega), sp_83 hT (by omega), Option.bind_some]
      show ((gm_35 (sgn tb L p) l s).bind fun q7 => if -2147483648 ≤ q7.1 ∧ q7.1 ≤ 2147483647 then (if ¬ q7.1 = -1 then ((gm_36 q7.2).bind fun q11 => gm_34_118 (gm_34_74 n) l p q7.1 q11.1 q11.2) else ((gm_37 (sgn tb L p) q7.2).bind fun q13 => gm_34_118 (gm_34_74 n) l p q7.1 q13.1 q13.2)) else none) = _
      rw [sp_35 s hl (by unfold i32; omega), Option.bind_some]
      show (if -2147483648 ≤ lv_ l (sgn tb L p) ∧ lv_ l (sgn tb L p) ≤ 2147483647 then (if ¬ lv_ l (sgn tb L p) = -1 then ((gm_36 s).bind fun q11 => gm_34_118 (gm_34_74 n) l p (lv_ l (sgn tb L p)) q11.1 q11.2) else ((gm_37 (sgn tb L p) s).bind fun q13 => gm_34_118 (gm_34_74 n) l p (lv_ l (sgn tb L p)) q13.1 q13.2)) else none) = _
      rw [if_pos (by omega), sp_36 S (by omega) i4, sp_37 S (by omega) i4 (by omega) i2 (by omega) (x := sgn tb L p) (by unfold i32; omega), Option.bind_some, Option.bind_some]
      unfold wr_
      by_cases a : ¬ lv_ l (sgn tb L p) = -1
      · rw [if_pos a, if_pos a]
      · rw [if_neg a, if_neg a]
    rw [one, lyt_s]
    unfold gm_34_118
    rw [if_pos (by omega)]
    by_cases z : wr_ tb L l M p r c K w = 0
    · obtain ⟨w1, w2⟩ := wb z
      rw [if_pos z, if_neg (show ¬ ¬ wr_ tb L l M p r c K w = 0 from fun t => t z), if_pos (by omega)]
      by_cases a : ¬ lv_ l (sgn tb L p) = -1
      · have cw := w1 a
        have hp : p < L := Classical.byContradiction fun q => by
          have e : sgn tb L p = -1 := if_neg q
          apply a
          unfold lv_
          rw [e]
          split <;> rfl
        obtain ⟨u, u1, u2, u3⟩ := sp_39 (v := lv_ l (sgn tb L p)) S I cw
        rw [if_pos a, if_pos a, u1, Option.bind_some]
        unfold gm_34_153
        rw [cp]
        obtain ⟨x, x1, x2, x3⟩ := ih (p + 1) n r (c + 1) K w (up2 h r c (lv_ l (sgn tb L p))) u (by omega) (by omega) (by omega) (CLy_TC u2 hT) u3 ⟨i1, i2, by omega, i4, i5⟩
        exact ⟨x, x1, CLy_tr u2 x2, x3⟩
      · obtain ⟨c0, x47, kw, d1, d2⟩ := w2 (by omega)
        obtain ⟨u, u1, u2, u3⟩ := sp_38 S I kw
        rw [if_neg a, if_neg a, u1, Option.bind_some]
        unfold gm_34_153
        rw [cp]
        by_cases e : sgn tb L p = 47
        · have hp : p < L := Classical.byContradiction fun q => by
            have e : sgn tb L p = -1 := if_neg q
            omega
          have := d1 e
          rw [if_pos e]
          obtain ⟨x, x1, x2, x3⟩ := ih (p + 1) n (r + 1) 0 1 c h u (by omega) (by omega) (by omega) (CLy_TC u2 hT) u3 ⟨by omega, i2, by omega, by omega, by omega⟩
          exact ⟨x, x1, CLy_tr u2 x2, x3⟩
        · have hp : ¬ p < L := fun q => by
            have e2 : sgn tb L p = tb p := if_pos q
            have := (hT.2.2 p q).2
            omega
          obtain ⟨n, rfl⟩ : ∃ n', n = n' + 1 := ⟨n - 1, by omega⟩
          have uT := CLy_TC u2 hT
          rw [if_neg e, gm_34_74, if_pos (by omega), uT.2.1, if_pos (by omega), if_pos (by omega)]
          obtain ⟨s1, s2, s3, s4, s5, s6, s7⟩ := u3
          exact ⟨u, rfl, u2, fun _ => ⟨s1, s2, fun i j hi hj => s7 i j (.inl ⟨hi, hj⟩)⟩⟩
    · rw [if_neg z, if_pos z]
      exact ⟨s, rfl, ⟨rfl, fun _ _ _ _ => rfl⟩, fun h => by
        have h : 8 * (p : Int) + wr_ tb L l M p r c K w = -1 := h
        omega⟩
theorem lyt_r {L l M : Nat} {tb : Nat → Int} {B : Int} (hb : ∀ x, ¬ lv_ l x = -1 → 0 ≤ lv_ l x ∧ lv_ l x ≤ B) : ∀ (k p r c K w : Nat) (h : Nat → Nat → Int), L < p + k → LI M r c K w → (∀ i j, (i < r ∧ j < w) ∨ (i = r ∧ j < c) → 0 ≤ h i j ∧ h i j ≤ B) → p ≤ L → L ≤ 200 → (∀ i, i < L → 0 ≤ tb i) → (-1 ≤ (lyt tb L l M k p r c K w h).1 ∧ (lyt tb L l M k p r c K w h).1 ≤ 2000) ∧ ((lyt tb L l M k p r c K w h).1 = -1 → (1 ≤ (lyt tb L l M k p r c K w h).2.1 ∧ (lyt tb L l M k p r c K w h).2.1 ≤ M) ∧ (1 ≤ (lyt tb L l M k p r c K w h).2.2.1 ∧ (lyt tb L l M k p r c K w h).2.2.1 ≤ 12) ∧ (¬ l = 0 → (lyt tb L l M k p r c K w h).2.1 = M) ∧ (K = 1 → (lyt tb L l M k p r c K w h).2.2.1 = w) ∧ ∀ i j, i < (lyt tb L l M k p r c K w h).2.1 → j < (lyt tb L l M k p r c K w h).2.2.1 → 0 ≤ (lyt tb L l M k p r c K w h).2.2.2 i j ∧ (lyt tb L l M k p r c K w h).2.2.2 i j ≤ B) := by
  intro k
  induction k with
  | zero => intro p r c K w h h1 I H hp; omega
  | succ k ih =>
    intro p r c K w h h1 I H hp hL hb0
    obtain ⟨i1, i2, i3, i4, i5⟩ := id I
    obtain ⟨wa, wb⟩ := wr_r (tb := tb) (L := L) (l := l) (M := M) (p := p) (r := r) (c := c) (K := K) (w := w)
    rw [lyt_s]
    by_cases z : wr_ tb L l M p r c K w = 0
    · obtain ⟨w1, w2⟩ := wb z
      rw [if_neg (show ¬ ¬ wr_ tb L l M p r c K w = 0 from fun t => t z)]
      by_cases a : ¬ lv_ l (sgn tb L p) = -1
      · have hp : p < L := Classical.byContradiction fun q => by
          have e : sgn tb L p = -1 := if_neg q
          apply a
          unfold lv_
          rw [e]
          split <;> rfl
        rw [if_pos a]
        exact ih (p + 1) r (c + 1) K w _ (by omega) ⟨i1, i2, by have := w1 a; omega, i4, i5⟩ (fun i j q => by
          unfold up2
          by_cases y : i = r ∧ j = c
          · rw [if_pos y]
            exact hb _ a
          · rw [if_neg y]
            exact H i j (by omega)) (by omega) hL hb0
      · obtain ⟨c0, x47, kw, d1, d2⟩ := w2 (by omega)
        have HH : ∀ i j, i < r + 1 → j < c → 0 ≤ h i j ∧ h i j ≤ B := fun i j hi hj => H i j (by omega)
        rw [if_neg a]
        by_cases e : sgn tb L p = 47
        · have hp : p < L := Classical.byContradiction fun q => by
            have e : sgn tb L p = -1 := if_neg q
            omega
          have := d1 e
          rw [if_pos e]
          obtain ⟨x1, x2⟩ := ih (p + 1) (r + 1) 0 1 c h (by omega) ⟨by omega, i2, by omega, by omega, by omega⟩ (fun i j q => HH i j (by omega) (by omega)) (by omega) hL hb0
          refine ⟨x1, fun q => ?_⟩
          obtain ⟨y1, y2, y3, y4, y5⟩ := x2 q
          exact ⟨y1, y2, y3, fun k1 => by
            have := y4 rfl
            omega, y5⟩
        · have := d2 (by omega)
          rw [if_neg e]
          exact ⟨by show (-1 : Int) ≤ -1 ∧ (-1 : Int) ≤ 2000; decide, fun _ => ⟨by show 1 ≤ r + 1 ∧ r + 1 ≤ M; omega, by show 1 ≤ c ∧ c ≤ 12; omega, fun q => by show r + 1 = M; omega, fun k1 => by show c = w; omega, HH⟩⟩
    · rw [if_pos z]
      refine ⟨?_, fun h => ?_⟩
      · show -1 ≤ 8 * (p : Int) + wr_ tb L l M p r c K w ∧ 8 * (p : Int) + wr_ tb L l M p r c K w ≤ 2000
        omega
      · have h : 8 * (p : Int) + wr_ tb L l M p r c K w = -1 := h
        omega
/-- a layer as a whole -/
def lyw (tb : Nat → Int) (L l R C : Nat) : Int × Nat × Nat × (Nat → Nat → Int) := lyt tb L l (if l = 0 then 8 else R) (L + 1) 0 0 0 (if l = 0 then 0 else 1) (if l = 0 then 12 else C) fun _ _ => 0
theorem sp_34 {L l R C : Nat} {tb : Nat → Int} {s : gx_S} (hl : l < 3) (hT : TC s L tb) (hR : s.1 1 4 = R) (hC : s.1 1 5 = C) (r8 : R ≤ 8) (c12 : C ≤ 12) (r1 : ¬ l = 0 → 1 ≤ R) : ∃ u : gx_S, gm_34 l 1 s = some ((lyw tb L l R C).1, u) ∧ CLy s u ∧ ((lyw tb L l R C).1 = -1 → u.1 58 1 = (lyw tb L l R C).2.1 ∧ u.1 58 2 = (lyw tb L l R C).2.2.1 ∧ ∀ i j, i < (lyw tb L l R C).2.1 → j < (lyw tb L l R C).2.2.1 → u.1 59 (i * (lyw tb L l R C).2.2.1 + j) = (lyw tb L l R C).2.2.2 i j) := by
  have hL := hT.1
  have st : ∃ t : gx_S, gm_34 l 1 s = gm_34_74 100000 l 0 t ∧ CLy s t ∧ LSt t l (if l = 0 then 8 else R) 0 0 (if l = 0 then 0 else 1) (if l = 0 then 12 else C) fun _ _ => 0 := by
    unfold gm_34
    rw [if_pos (by decide +kernel), if_pos (by omega)]
    by_cases a : l = 0
    · have aI : (l : Int) = 0 := by omega
      obtain ⟨t1, ht1⟩ : ∃ t1, t1 = gw1 s 58 6 0 := ⟨_, rfl⟩
      obtain ⟨t2, ht2⟩ : ∃ t2, t2 = gw1 t1 58 5 0 := ⟨_, rfl⟩
      obtain ⟨t3, ht3⟩ : ∃ t3, t3 = gw1 t2 58 2 12 := ⟨_, rfl⟩
      have e16 : t1.1 58 6 = 0 := by rw [ht1, gw1_1, if_pos ⟨rfl, rfl⟩]
      have e26 : t2.1 58 6 = 0 := by rw [ht2, gw1_1, if_neg (by omega)]; exact e16
      have e36 : t3.1 58 6 = 0 := by rw [ht3, gw1_1, if_neg (by omega)]; exact e26
      rw [if_pos aI]
      unfold gm_34_10
      rw [if_pos (show (0 : Int) = 0 ∨ (0 : Int) = 1 by decide), ← ht1, e16, if_pos (show (0 : Int) = 0 ∨ (0 : Int) = 1 by decide), ← ht2, e26, if_pos (show (-2147483648 : Int) ≤ 0 ∧ (0 : Int) ≤ 2147483647 by decide), if_pos rfl]
      unfold gm_34_38
      rw [← ht3, e36, if_pos (show (-2147483648 : Int) ≤ 0 ∧ (0 : Int) ≤ 2147483647 by decide), if_pos rfl]
      unfold gm_34_58
      rw [if_pos a, if_pos a, if_pos a]
      refine ⟨_, rfl, ⟨by rw [ht3, ht2, ht1]; rfl, fun k j q1 q2 => by rw [gw1_1, if_neg (by omega), gw1_1, if_neg (by omega), gw1_1, if_neg (by omega), ht3, gw1_1, if_neg (by omega), ht2, gw1_1, if_neg (by omega), ht1, gw1_1, if_neg (by omega)]⟩, ?_, ?_, ?_, ?_, ?_, ?_, fun i j q => by omega⟩
      · rw [gw1_1, if_neg (by omega), gw1_1, if_pos ⟨rfl, rfl⟩]; rfl
      · rw [gw1_1, if_neg (by omega), gw1_1, if_neg (by omega), gw1_1, if_neg (by omega), ht3, gw1_1, if_pos ⟨rfl, rfl⟩]; rfl
      · rw [gw1_1, if_pos ⟨rfl, rfl⟩]; rfl
      · rw [gw1_1, if_neg (by omega), gw1_1, if_neg (by omega), gw1_1, if_pos ⟨rfl, rfl⟩]; rfl
      · rw [gw1_1, if_neg (by omega), gw1_1, if_neg (by omega), gw1_1, if_neg (by omega), ht3, gw1_1, if_neg (by omega), ht2, gw1_1, if_pos ⟨rfl, rfl⟩]; rfl
      · rw [gw1_1, if_neg (by omega), gw1_1, if_neg (by omega), gw1_1, if_neg (by omega), e36, if_pos a]
    · have aI : ¬ (l : Int) = 0 := by omega
      obtain ⟨t1, ht1⟩ : ∃ t1, t1 = gw1 s 58 6 1 := ⟨_, rfl⟩
      obtain ⟨t2, ht2⟩ : ∃ t2, t2 = gw1 t1 58 5 1 := ⟨_, rfl⟩
      obtain ⟨t3, ht3⟩ : ∃ t3, t3 = gw1 t2 58 2 C := ⟨_, rfl⟩
      have e16 : t1.1 58 6 = 1 := by rw [ht1, gw1_1, if_pos ⟨rfl, rfl⟩]
      have e26 : t2.1 58 6 = 1 := by rw [ht2, gw1_1, if_neg (by omega)]; exact e16
      have e36 : t3.1 58 6 = 1 := by rw [ht3, gw1_1, if_neg (by omega)]; exact e26
      have e25 : t2.1 1 5 = C := by rw [ht2, gw1_1, if_neg (by omega), ht1, gw1_1, if_neg (by omega)]; exact hC
      have e34 : t3.1 1 4 = R := by rw [ht3, gw1_1, if_neg (by omega), ht2, gw1_1, if_neg (by omega), ht1, gw1_1, if_neg (by omega)]; exact hR
      rw [if_neg aI]
      unfold gm_34_10
      rw [if_pos (show (1 : Int) = 0 ∨ (1 : Int) = 1 by decide), ← ht1, e16, if_pos (show (1 : Int) = 0 ∨ (1 : Int) = 1 by decide), ← ht2, e26, if_pos (show (-2147483648 : Int) ≤ 1 ∧ (1 : Int) ≤ 2147483647 by decide), if_neg (show ¬ (1 : Int) = 0 by decide), e25]
      unfold gm_34_38
      rw [← ht3, e36, if_pos (show (-2147483648 : Int) ≤ 1 ∧ (1 : Int) ≤ 2147483647 by decide), if_neg (show ¬ (1 : Int) = 0 by decide), e34]
      unfold gm_34_58
      rw [if_neg a, if_neg a, if_neg a]
      refine ⟨_, rfl, ⟨by rw [ht3, ht2, ht1]; rfl, fun k j q1 q2 => by rw [gw1_1, if_neg (by omega), gw1_1, if_neg (by omega), gw1_1, if_neg (by omega), ht3, gw1_1, if_neg (by omega), ht2, gw1_1, if_neg (by omega), ht1, gw1_1, if_neg (by omega)]⟩, ?_, ?_, ?_, ?_, ?_, ?_, fun i j q => by omega⟩
      · rw [gw1_1, if_neg (by omega), gw1_1, if_pos ⟨rfl, rfl⟩]; rfl
      · rw [gw1_1, if_neg (by omega), gw1_1, if_neg (by omega), gw1_1, if_neg (by omega), ht3, gw1_1, if_pos ⟨rfl, rfl⟩]
      · rw [gw1_1, if_pos ⟨rfl, rfl⟩]; rfl
      · rw [gw1_1, if_neg (by omega), gw1_1, if_neg (by omega), gw1_1, if_pos ⟨rfl, rfl⟩]
      · rw [gw1_1, if_neg (by omega), gw1_1, if_neg (by omega), gw1_1, if_neg (by omega), ht3, gw1_1, if_neg (by omega), ht2, gw1_1, if_pos ⟨rfl, rfl⟩]; rfl
      · rw [gw1_1, if_neg (by omega), gw1_1, if_neg (by omega), gw1_1, if_neg (by omega), e36, if_neg a]
  obtain ⟨t, t1, t2, t3⟩ := st
  obtain ⟨u, u1, u2, u3⟩ := sl_34 hl (L + 1) 0 100000 0 0 _ _ _ t (by omega) (by omega) (by omega) (CLy_TC t2 hT) t3 (by
    by_cases a : l = 0
    · rw [if_pos a, if_pos a, if_pos a]
      exact ⟨by omega, by omega, by omega, by omega, by omega⟩
    · rw [if_neg a, if_neg a, if_neg a]
      have := r1 a
      exact ⟨by omega, by omega, by omega, by omega, by omega⟩)
  have u1 : gm_34_74 100000 l 0 t = _ := u1
  exact ⟨u, t1.trans u1, CLy_tr t2 u2, u3⟩
end
section
/-! TEXTS of layers: the reference's rows -/
theorem CX_tr {s t u : gx_S} (a : CX s t) (b : CX t u) : CX s u := ⟨b.1.trans a.1, fun k j h1 h2 h3 => (b.2 k j h1 h2 h3).trans (a.2 k j h1 h2 h3)⟩
theorem CX_rf (s : gx_S) : CX s s := ⟨rfl, fun _ _ _ _ _ => rfl⟩
theorem CX_TF {s u : gx_S} {L : Nat} {tb : Nat → Int} (a : CX s u) (T : TF s L tb) : TF u L tb := TF_o (a.2 _ _ (by omega) (by omega) (by omega)) (fun i => a.2 _ _ (by omega) (by omega) (by omega)) T
theorem CX_1 (s : gx_S) {j : Nat} (x : Int) (h : 5 ≤ j ∧ j ≤ 11) : CX s (gw1 s 215 j x) := ⟨rfl, fun k i q1 q2 q3 => by rw [gw1_1, if_neg (by omega)]⟩
theorem CX_219 (s : gx_S) (j : Nat) (x : Int) : CX s (gw1 s 219 j x) := ⟨rfl, fun k i q1 q2 q3 => by rw [gw1_1, if_neg (by omega)]⟩
theorem sp_140 (s : gx_S) {l : Nat} {x : Int} (hl : l < 3) (h : i32 x) : gm_140 l x s = some (decide (¬ lv_ l x = -1), s) := by
  have h' := h
  unfold i32 at h'
  unfold gm_140 lv_
  rw [if_pos (by omega)]
  by_cases a : l = 2
  · rw [if_neg (by omega), if_pos h', if_pos a, in_ s h (by omega) (by omega), Option.bind_some]
    by_cases b : 48 ≤ x ∧ x ≤ 51
    · rw [if_pos b]
      show some (decide (48 ≤ x ∧ x ≤ 51), s) = _
      rw [decide_eq_true b, decide_eq_true (by omega)]
    · rw [if_neg b]
      show some (decide (48 ≤ x ∧ x ≤ 51), s) = _
      rw [decide_eq_false b, decide_eq_false (by omega)]
  · rw [if_pos (by omega), if_pos h', if_neg a, in_ s h (by omega) (by omega), Option.bind_some]
    by_cases d : x = 46
    · rw [if_neg (fun q => q ((gbD s).mpr (by omega))), if_neg (fun t => t d), if_pos d, decide_eq_true (show ¬ (8 : Int) = -1 by decide)]
    · rw [if_neg d]
      by_cases b : 97 ≤ x ∧ x ≤ 104
      · rw [if_pos (fun q => (gbD s).mp q b), if_pos b, decide_eq_true (show ¬ x - 97 = -1 by omega)]
      · rw [if_neg (fun q => q ((gbD s).mpr b)), if_pos d, if_neg b, decide_eq_false (show ¬ ¬ (-1 : Int) = -1 from fun t => t rfl)]
theorem sp_141 (s : gx_S) {l : Nat} {x : Int} (hl : l < 3) (h : i32 x) (hv : ¬ lv_ l x = -1) : gm_141 l x s = some (lv_ l x, s) := by
  unfold i32 at h
  unfold lv_ at hv ⊢
  unfold gm_141
  rw [if_pos (by omega)]
  by_cases a : l = 2
  · rw [if_pos a] at hv
    rw [if_neg (by omega), if_pos a]
    by_cases b : 48 ≤ x ∧ x ≤ 51
    · rw [if_pos b]
    · rw [if_neg b] at hv
      exact absurd rfl hv
  · rw [if_neg a] at hv
    rw [if_pos (by omega), if_pos h, if_neg a]
    by_cases d : x = 46
    · rw [if_neg (fun t => t d), if_pos d]
    · rw [if_neg d] at hv
      rw [if_pos d, if_neg d]
      by_cases b : 97 ≤ x ∧ x ≤ 104
      · rw [if_pos b]
      · rw [if_neg b] at hv
        exact absurd rfl hv
/-- the reference's place in a row -/
def RS (s : gx_S) (p r : Nat) (c w : Nat) (h : Nat → Nat → Int) : Prop := s.1 215 6 = -1 ∧ s.1 215 5 = p ∧ s.1 215 8 = r ∧ ∀ i j, (i < r ∧ j < w) ∨ (i = r ∧ j < c) → s.1 219 (12 * i + j) = h i j
theorem sl_142_36 {L l M K w : Nat} {tb : Nat → Int} {x2 : Int} (hl : l < 3) : ∀ (k p n r c : Nat) (h : Nat → Nat → Int) (s : gx_S), L < p + k → p ≤ L → k < n → TF s L tb → RS s p r c w h → LI M r c K w → ∃ (u : gx_S) (k' p' c' : Nat) (h' : Nat → Nat → Int), gm_142_36 n l x2 w c s = gm_142_92 l x2 c' u ∧ CX s u ∧ lyt tb L l M k p r c K w h = lyt tb L l M k' p' r c' K w h' ∧ L < p' + k' ∧ p' ≤ L ∧ RS u p' r c' w h' ∧ LI M r c' K w ∧ c ≤ c' ∧ k' ≤ k ∧ (w ≤ c' ∨ lv_ l (sgn tb L p') = -1) ∧ (c < w → ¬ lv_ l (sgn tb L p) = -1 → 0 < c') := by
  intro k
  induction k with
  | zero => intro p n r c h s h1 h2; omega
  | succ k ih =>
    intro p n r c h s h1 h2 h3 hT S I
    obtain ⟨n, rfl⟩ : ∃ n', n = n' + 1 := ⟨n - 1, by omega⟩
    have hL := hT.1
    have sr := sgn_rf hT p
    obtain ⟨i1, i2, i3, i4, i5⟩ := id I
    obtain ⟨s1, s2, s3, s4⟩ := id S
    rw [gm_142_36, if_pos (by omega), if_pos (by omega)]
    by_cases a : w ≤ c
    · rw [if_pos (by omega)]
      exact ⟨s, k + 1, p, c, h, rfl, CX_rf s, rfl, h1, h2, S, I, Nat.le_refl c, Nat.le_refl _, .inl a, fun q => by omega⟩
    · rw [if_neg (by omega), sp_137 hT (by omega) s2, Option.bind_some]
      show ∃ (u : gx_S) (k' p' c' : Nat) (h' : Nat → Nat → Int), ((gm_140 l (sgn tb L p) s).bind _) = _ ∧ _
      rw [sp_140 s hl (by unfold i32; omega), Option.bind_some]
      by_cases b : ¬ lv_ l (sgn tb L p) = -1
      · have hp : p < L := Classical.byContradiction fun q => by
          have e : sgn tb L p = -1 := if_neg q
          apply b
          unfold lv_
          rw [e]
          split <;> rfl
        have e8 : 12 * (r : Int) + (c : Int) = ((12 * r + c : Nat) : Int) := by omega
        have cc : ((c : Int) + 1) = ((c + 1 : Nat) : Int) := rfl
        have cp : ((p : Int) + 1) = ((p + 1 : Nat) : Int) := rfl
        rw [if_neg (fun t => (gbD s).mp t b)]
        show ∃ (u : gx_S) (k' p' c' : Nat) (h' : Nat → Nat → Int), ((gm_137 s).bind _) = _ ∧ _
        rw [sp_137 hT (by omega) s2, Option.bind_some]
        show ∃ (u : gx_S) (k' p' c' : Nat) (h' : Nat → Nat → Int), ((gm_141 l (sgn tb L p) s).bind fun q12 => if 0 ≤ ((12 * (s.1 215 8)) + (c : Int)) ∧ ((12 * (s.1 215 8)) + (c : Int)) < 96 then gm_142_36 n l x2 w ((c : Int) + 1) (gw1 (gw1 q12.2 219 (((12 * (s.1 215 8)) + (c : Int))).toNat q12.1) 215 5 (((gw1 q12.2 219 (((12 * (s.1 215 8)) + (c : Int))).toNat q12.1).1 215 5) + 1)) else none) = _ ∧ _
        rw [sp_141 s hl (by unfold i32; omega) b, Option.bind_some, s3, e8, if_pos (by omega), cc]
        obtain ⟨t, ht⟩ : ∃ t, t = gw1 s 219 (12 * r + c) (lv_ l (sgn tb L p)) := ⟨_, rfl⟩
        have t5 : t.1 215 5 = p := by rw [ht, gw1_1, if_neg (by omega)]; exact s2
        show ∃ (u : gx_S) (k' p' c' : Nat) (h' : Nat → Nat → Int), gm_142_36 n l x2 w ((c + 1 : Nat) : Int) (gw1 (gw1 s 219 ((12 * r + c : Nat) : Int).toNat (lv_ l (sgn tb L p))) 215 5 (((gw1 s 219 ((12 * r + c : Nat) : Int).toNat (lv_ l (sgn tb L p))).1 215 5) + 1)) = _ ∧ _
        rw [show ((12 * r + c : Nat) : Int).toNat = 12 * r + c from rfl, ← ht, t5, cp]
        obtain ⟨v, hv⟩ : ∃ v, v = gw1 t 215 5 ((p + 1 : Nat) : Int) := ⟨_, rfl⟩
        rw [← hv]
        have vC : CX s v := CX_tr (t := t) (by rw [ht]; exact CX_219 s _ _) (by rw [hv]; exact CX_1 t _ (by omega))
        have vo : ∀ k j, ¬ (k = 219) → ¬ (k = 215 ∧ j = 5) → v.1 k j = s.1 k j := fun k j q1 q2 => by rw [hv, gw1_1, if_neg q2, ht, gw1_1, if_neg (by omega)]
        have vS : RS v (p + 1) r (c + 1) w (up2 h r c (lv_ l (sgn tb L p))) := ⟨by rw [vo _ _ (by omega) (by omega)]; exact s1, by rw [hv, gw1_1, if_pos ⟨rfl, rfl⟩], by rw [vo _ _ (by omega) (by omega)]; exact s3, fun i j q => by
          rw [hv, gw1_1, if_neg (by omega), ht, gw1_1]
          unfold up2
          by_cases y : i = r ∧ j = c
          · rw [if_pos ⟨rfl, by omega⟩, if_pos y]
          · rw [if_neg (by omega), if_neg y]
            exact s4 i j (by omega)⟩
        obtain ⟨u, k', p', c', h', u1, u2, u3, u4, u5, u6, u7, u8, uk, u9, u10⟩ := ih (p + 1) n r (c + 1) (up2 h r c (lv_ l (sgn tb L p))) v (by omega) (by omega) (by omega) (CX_TF vC hT) vS ⟨i1, i2, by omega, i4, i5⟩
        refine ⟨u, k', p', c', h', u1, CX_tr vC u2, ?_, u4, u5, u6, u7, by omega, by omega, u9, fun _ _ => by omega⟩
        rw [← u3, lyt, if_pos b, if_neg a]
      · rw [if_pos ((gbD s).mpr b)]
        exact ⟨s, k + 1, p, c, h, rfl, CX_rf s, rfl, h1, h2, S, I, Nat.le_refl c, Nat.le_refl _, .inr (by omega), fun _ q => absurd q b⟩
/-- a row ends -/
theorem sp_168r (s : gx_S) {c r : Nat} (e : s.1 215 8 = r) : ∃ u : gx_S, gm_142_168 c s = some u ∧ CX s u ∧ u.1 215 8 = ((r + 1 : Nat) : Int) ∧ u.1 215 9 = c ∧ ∀ k j, ¬ (k = 215 ∧ (j = 8 ∨ j = 9)) → u.1 k j = s.1 k j := by
  have x8 : (gw1 s 215 9 (c : Int)).1 215 8 = r := by rw [gw1_1, if_neg (by omega)]; exact e
  unfold gm_142_168
  rw [x8]
  exact ⟨_, rfl, CX_tr (CX_1 s _ (by omega)) (CX_1 _ _ (by omega)), by rw [gw1_1, if_pos ⟨rfl, rfl⟩]; rfl, by rw [gw1_1, if_neg (by omega), gw1_1, if_pos ⟨rfl, rfl⟩], fun k j q => by rw [gw1_1, if_neg (by omega), gw1_1, if_neg (by omega)]⟩
/-- what a row leaves -/
def RB_ (tb : Nat → Int) (L l M : Nat) (u : gx_S) (R : Int × Nat × Nat × (Nat → Nat → Int)) (r K w : Nat) : Prop :=
  (¬ u.1 215 6 = -1 ∧ i32 (u.1 215 6) ∧ R.1 = u.1 215 6) ∨ ∃ (k p c : Nat) (h : Nat → Nat → Int), R = lyt tb L l M k p r c K w h ∧ k < 1000 ∧ L < p + k ∧ p ≤ L ∧ LI M r c K w ∧ 0 < c ∧ ¬ (K = 1 ∧ c < w) ∧ lv_ l (sgn tb L p) = -1 ∧ (sgn tb L p = 47 ∨ sgn tb L p = -1) ∧ u.1 215 6 = -1 ∧ u.1 215 5 = p ∧ u.1 215 8 = ((r + 1 : Nat) : Int) ∧ u.1 215 9 = c ∧ ∀ i j, (i < r ∧ j < w) ∨ (i = r ∧ j < c) → u.1 219 (12 * i + j) = h i j
theorem sp_142_92 {L l M K w k p r c : Nat} {tb : Nat → Int} {x2 : Int} {h : Nat → Nat → Int} {s : gx_S} (hl : l < 3) (hx : x2 = if K = 0 then -1 else (w : Int)) (h1 : L < p + k) (h2 : p ≤ L) (hk : k < 1000) (hT : TF s L tb) (S : RS s p r c w h) (I : LI M r c K w) (c0 : 0 < c) (hb : w ≤ c ∨ lv_ l (sgn tb L p) = -1) : ∃ u : gx_S, gm_142_92 l x2 c s = some u ∧ CX s u ∧ RB_ tb L l M u (lyt tb L l M k p r c K w h) r K w := by
  have hL := hT.1
  have sr := sgn_rf hT p
  obtain ⟨i1, i2, i3, i4, i5⟩ := id I
  obtain ⟨s1, s2, s3, s4⟩ := id S
  obtain ⟨k, rfl⟩ : ∃ k', k = k' + 1 := ⟨k - 1, by omega⟩
  have f6 : i32 (s.1 215 6) := by rw [s1]; unfold i32; omega
  -- with a fault
  have flt : ∀ f : Int, 0 ≤ f → f ≤ 4 → (lyt tb L l M (k + 1) p r c K w h).1 = 8 * p + f → ∃ u : gx_S, ((gm_139 f (s.1 215 5) s).bind fun q => gm_142_168 c q) = some u ∧ CX s u ∧ RB_ tb L l M u (lyt tb L l M (k + 1) p r c K w h) r K w := fun f f1 f2 e => by
    obtain ⟨u, u1, u2, u3, u4, u5⟩ := sp_168r (gw1 s 215 6 (8 * (p : Int) + f)) (c := c) (r := r) (by rw [gw1_1, if_neg (by omega)]; exact s3)
    have u6 : u.1 215 6 = 8 * (p : Int) + f := by rw [u5 _ _ (by omega), gw1_1, if_pos ⟨rfl, rfl⟩]
    rw [sp_139 f6, if_pos s1, Option.bind_some, s2, u1]
    exact ⟨u, rfl, CX_tr (CX_1 s _ (by omega)) u2, .inl ⟨by omega, by rw [u6]; unfold i32; omega, by rw [e, u6]⟩⟩
  have two_ : gm_142_92 l x2 c s = if sgn tb L p = 47 ∨ sgn tb L p = -1 then gm_142_114 l x2 c 1 s else gm_142_114 l x2 c 0 s := by
    unfold gm_142_92
    rw [sp_137 hT (by omega) s2, Option.bind_some]
    show (if -2147483648 ≤ sgn tb L p ∧ sgn tb L p ≤ 2147483647 then (if sgn tb L p = 47 then gm_142_114 l x2 c 1 s else ((gm_137 s).bind fun q6 => if -2147483648 ≤ q6.1 ∧ q6.1 ≤ 2147483647 then (if ¬ q6.1 = -1 then gm_142_114 l x2 c 0 q6.2 else gm_142_114 l x2 c 1 q6.2) else none)) else none) = _
    rw [if_pos (by omega), sp_137 hT (by omega) s2, Option.bind_some]
    show (if sgn tb L p = 47 then gm_142_114 l x2 c 1 s else (if -2147483648 ≤ sgn tb L p ∧ sgn tb L p ≤ 2147483647 then (if ¬ sgn tb L p = -1 then gm_142_114 l x2 c 0 s else gm_142_114 l x2 c 1 s) else none)) = _
    rw [if_pos (show -2147483648 ≤ sgn tb L p ∧ sgn tb L p ≤ 2147483647 by omega)]
    by_cases a : sgn tb L p = 47
    · rw [if_pos a, if_pos (.inl a)]
    · rw [if_neg a]
      by_cases b : sgn tb L p = -1
      · rw [if_neg (fun t => t b), if_pos (.inr b)]
      · rw [if_pos b, if_neg (by omega)]
  rw [two_]
  by_cases a : sgn tb L p = 47 ∨ sgn tb L p = -1
  · have v1 : lv_ l (sgn tb L p) = -1 := by
      unfold lv_
      rcases a with a | a
      · rw [a]; split <;> rfl
      · rw [a]; split <;> rfl
    rw [if_pos a]
    unfold gm_142_114
    rw [if_pos (show (-2147483648 : Int) ≤ 1 ∧ (1 : Int) ≤ 2147483647 by decide), if_pos (show ¬ (1 : Int) = 0 by decide)]
    have ok : ¬ (K = 1 ∧ c < w) → ∃ u : gx_S, gm_142_168 c s = some u ∧ CX s u ∧ RB_ tb L l M u (lyt tb L l M (k + 1) p r c K w h) r K w := fun kw => by
      obtain ⟨u, u1, u2, u3, u4, u5⟩ := sp_168r s (c := c) s3
      exact ⟨u, u1, u2, .inr ⟨k + 1, p, c, h, rfl, hk, h1, h2, I, c0, kw, v1, a, by rw [u5 _ _ (by omega)]; exact s1, by rw [u5 _ _ (by omega)]; exact s2, u3, u4, fun i j q => by rw [u5 _ _ (by omega)]; exact s4 i j q⟩⟩
    rw [hx]
    by_cases b : K = 0
    · rw [if_pos b, if_pos (show (-2147483648 : Int) ≤ -1 ∧ (-1 : Int) ≤ 2147483647 by decide), if_pos rfl]
      exact ok (by omega)
    · rw [if_neg b, if_pos (show -2147483648 ≤ (w : Int) ∧ (w : Int) ≤ 2147483647 by omega), if_neg (show ¬ (w : Int) = -1 by omega), if_pos (show -2147483648 ≤ (c : Int) ∧ (c : Int) ≤ 2147483647 by omega)]
      by_cases d : w ≤ c
      · rw [if_pos (show (w : Int) ≤ (c : Int) by omega)]
        exact ok (by omega)
      · rw [if_neg (show ¬ (w : Int) ≤ (c : Int) by omega)]
        refine flt 2 (by omega) (by omega) ?_
        rw [lyt, if_neg (fun t => t v1), if_neg (by omega), if_pos (show K = 1 ∧ c < w by omega)]
  · rw [if_neg a]
    unfold gm_142_114
    rw [if_pos (show (-2147483648 : Int) ≤ 0 ∧ (0 : Int) ≤ 2147483647 by decide), if_neg (show ¬ ¬ (0 : Int) = 0 from fun t => t rfl), sp_137 hT (by omega) s2, Option.bind_some]
    show ∃ u : gx_S, ((gm_140 l (sgn tb L p) s).bind _) = _ ∧ _
    rw [sp_140 s hl (by unfold i32; omega), Option.bind_some]
    by_cases b : ¬ lv_ l (sgn tb L p) = -1
    · have wc : w ≤ c := by omega
      rw [if_neg (fun t => (gbD s).mp t b)]
      refine flt 3 (by omega) (by omega) ?_
      rw [lyt, if_pos b, if_pos wc]
    · rw [if_pos ((gbD s).mpr b)]
      refine flt 1 (by omega) (by omega) ?_
      rw [lyt, if_neg b, if_pos (.inr a)]
theorem sp_142 {L l M K w k p r : Nat} {tb : Nat → Int} {x2 : Int} {h : Nat → Nat → Int} {s : gx_S} (hl : l < 3) (hx : x2 = if K = 0 then -1 else (w : Int)) (h1 : L < p + k) (h2 : p ≤ L) (hk : k < 1000) (hT : TF s L tb) (S : RS s p r 0 w h) (I : LI M r 0 K w) (w0 : 0 < w) : ∃ u : gx_S, gm_142 l x2 s = some u ∧ CX s u ∧ RB_ tb L l M u (lyt tb L l M k p r 0 K w h) r K w := by
  have hL := hT.1
  have sr := sgn_rf hT p
  obtain ⟨i1, i2, i3, i4, i5⟩ := id I
  obtain ⟨s1, s2, s3, s4⟩ := id S
  have xr : i32 x2 := by
    rw [hx]
    unfold i32
    split <;> omega
  unfold i32 at xr
  unfold gm_142
  rw [sp_137 hT (by omega) s2, Option.bind_some]
  show ∃ u : gx_S, ((gm_140 l (sgn tb L p) s).bind _) = _ ∧ _
  rw [sp_140 s hl (by unfold i32; omega), Option.bind_some]
  by_cases b : ¬ lv_ l (sgn tb L p) = -1
  · have e : (if ¬ x2 = -1 then gm_142_32 l x2 x2 s else gm_142_32 l x2 12 s) = gm_142_36 100000 l x2 w 0 s := by
      unfold gm_142_32
      rw [hx]
      by_cases z : K = 0
      · rw [if_pos z, if_neg (show ¬ ¬ (-1 : Int) = -1 from fun t => t rfl), show w = 12 by omega]
        rfl
      · rw [if_neg z, if_pos (show ¬ (w : Int) = -1 by omega)]
    obtain ⟨u, k', p', c', h', u1, u2, u3, u4, u5, u6, u7, u8, uk, u9, u10⟩ := sl_142_36 (x2 := x2) hl k p 100000 r 0 h s h1 h2 (by omega) hT S I
    have u1 : gm_142_36 100000 l x2 w 0 s = _ := u1
    rw [if_pos (fun q => (gbD s).mp q b), if_pos xr]
    show ∃ v : gx_S, (if ¬ x2 = -1 then gm_142_32 l x2 x2 s else gm_142_32 l x2 12 s) = _ ∧ _
    rw [e, u1, u3]
    obtain ⟨v, v1, v2, v3⟩ := sp_142_92 hl hx u4 u5 (by omega) (CX_TF u2 hT) u6 u7 (u10 w0 b) u9
    exact ⟨v, v1, CX_tr u2 v2, v3⟩
  · rw [if_neg (fun q => q ((gbD s).mpr b))]
    show ∃ v : gx_S, ((gm_139 1 (s.1 215 5) s).bind _) = _ ∧ _
    rw [sp_139 (by rw [s1]; unfold i32; omega), if_pos s1, Option.bind_some, s2]
    obtain ⟨k, rfl⟩ : ∃ k', k = k' + 1 := ⟨k - 1, by omega⟩
    have x6 : (gw1 s 215 6 (8 * (p : Int) + 1)).1 215 6 = 8 * (p : Int) + 1 := by rw [gw1_1, if_pos ⟨rfl, rfl⟩]
    refine ⟨_, rfl, CX_1 s _ (by omega), .inl ⟨by rw [x6]; omega, by rw [x6]; unfold i32; omega, ?_⟩⟩
    rw [x6, lyt, if_neg b, if_pos (.inl rfl)]
end
section
/-! TEXTS of layers: the reference's whole reading -/
theorem fl_143 {n : Nat} {l : Nat} {x2 x3 : Int} {u : gx_S} (h : ¬ u.1 215 6 = -1) (h6 : i32 (u.1 215 6)) : gm_143_57 (n + 1) l x2 x3 u = some u := by
  rw [gm_143_57, sp_138 h6, Option.bind_some, if_pos ((gbD u).mpr h)]
  unfold gm_143_112
  rw [sp_138 h6, Option.bind_some, if_pos ((gbD u).mpr h)]
/-- what the whole reading leaves -/
def RW_ (u : gx_S) (Y : Int × Nat × Nat × (Nat → Nat → Int)) : Prop := u.1 215 6 = Y.1 ∧ (Y.1 = -1 → u.1 215 8 = Y.2.1 ∧ u.1 215 9 = Y.2.2.1 ∧ ∀ i j, i < Y.2.1 → j < Y.2.2.1 → u.1 219 (12 * i + j) = Y.2.2.2 i j)
theorem sl_143_57 {L l M : Nat} {tb : Nat → Int} (hl : l < 3) : ∀ (m n r k p c K w : Nat) (h : Nat → Nat → Int) (s : gx_S), M ≤ r + m → m < n → k < 1000 → L < p + k → p ≤ L → LI M r c K w → 0 < c → ¬ (K = 1 ∧ c < w) → lv_ l (sgn tb L p) = -1 → (sgn tb L p = 47 ∨ sgn tb L p = -1) → s.1 215 6 = -1 → s.1 215 5 = p → s.1 215 8 = ((r + 1 : Nat) : Int) → s.1 215 9 = c → (∀ i j, (i < r ∧ j < w) ∨ (i = r ∧ j < c) → s.1 219 (12 * i + j) = h i j) → TF s L tb → ∃ u : gx_S, gm_143_57 n l M c s = some u ∧ CX s u ∧ RW_ u (lyt tb L l M k p r c K w h) := by
  intro m
  induction m with
  | zero => intro n r k p c K w h s h1 h2 h3 h4 h5 I; obtain ⟨i1, _⟩ := I; omega
  | succ m ih =>
    intro n r k p c K w h s h1 h2 h3 h4 h5 I c0 kw v1 x47 s6 s5 s8 s9 sc hT
    obtain ⟨n, rfl⟩ : ∃ n', n = n' + 1 := ⟨n - 1, by omega⟩
    obtain ⟨k, rfl⟩ : ∃ k', k = k' + 1 := ⟨k - 1, by omega⟩
    have hL := hT.1
    have sr := sgn_rf hT p
    obtain ⟨i1, i2, i3, i4, i5⟩ := id I
    have f6 : i32 (s.1 215 6) := by rw [s6]; unfold i32; omega
    rw [gm_143_57, sp_138 f6, Option.bind_some, if_neg (fun q => (gbD s).mp q s6)]
    show ∃ u : gx_S, ((gm_137 s).bind _) = _ ∧ _
    rw [sp_137 hT (by omega) s5, Option.bind_some]
    show ∃ u : gx_S, (if -2147483648 ≤ sgn tb L p ∧ sgn tb L p ≤ 2147483647 then (if ¬ sgn tb L p = 47 then gm_143_112 l M s else (if -2147483648 ≤ (s.1 215 8) ∧ (s.1 215 8) ≤ 2147483647 then (if -2147483648 ≤ (M : Int) ∧ (M : Int) ≤ 2147483647 then (if ¬ (s.1 215 8) = (M : Int) then ((gm_142 l c (gw1 s 215 5 ((s.1 215 5) + 1))).bind fun q12 => gm_143_57 n l M c q12) else ((gm_139 3 (s.1 215 5) s).bind fun q14 => gm_143_57 n l M c q14)) else none) else none)) else none) = _ ∧ _
    rw [if_pos (by omega), lyt, if_neg (show ¬ ¬ lv_ l (sgn tb L p) = -1 from fun t => t v1), if_neg (show ¬ (c = 0 ∨ ¬ (sgn tb L p = 47 ∨ sgn tb L p = -1)) by omega), if_neg kw]
    by_cases a : sgn tb L p = 47
    · have hp : p < L := Classical.byContradiction fun q => by
        have e : sgn tb L p = -1 := if_neg q
        omega
      rw [if_neg (show ¬ ¬ sgn tb L p = 47 from fun t => t a), if_pos a, s8, if_pos (show -2147483648 ≤ ((r + 1 : Nat) : Int) ∧ ((r + 1 : Nat) : Int) ≤ 2147483647 by omega), if_pos (show -2147483648 ≤ (M : Int) ∧ (M : Int) ≤ 2147483647 by omega)]
      by_cases b : M ≤ r + 1
      · obtain ⟨n, rfl⟩ : ∃ n', n = n' + 1 := ⟨n - 1, by omega⟩
        rw [if_neg (show ¬ ¬ ((r + 1 : Nat) : Int) = (M : Int) by omega), if_pos b, sp_139 f6, if_pos s6, Option.bind_some, s5]
        have x6 : (gw1 s 215 6 (8 * (p : Int) + 3)).1 215 6 = 8 * (p : Int) + 3 := by rw [gw1_1, if_pos ⟨rfl, rfl⟩]
        rw [fl_143 (by rw [x6]; omega) (by rw [x6]; unfold i32; omega)]
        exact ⟨_, rfl, CX_1 s _ (by omega), x6, fun q => by
          have q : 8 * (p : Int) + 3 = -1 := q
          omega⟩
      · have cp : ((p : Int) + 1) = ((p + 1 : Nat) : Int) := rfl
        obtain ⟨t, ht⟩ : ∃ t, t = gw1 s 215 5 ((p + 1 : Nat) : Int) := ⟨_, rfl⟩
        have tC : CX s t := by rw [ht]; exact CX_1 s _ (by omega)
        have to : ∀ k j, ¬ (k = 215 ∧ j = 5) → t.1 k j = s.1 k j := fun k j q => by rw [ht, gw1_1, if_neg q]
        rw [if_pos (show ¬ ((r + 1 : Nat) : Int) = (M : Int) by omega), if_neg b, s5, cp, ← ht]
        obtain ⟨u, u1, u2, u3⟩ := sp_142 (K := 1) (w := c) (k := k) (p := p + 1) (r := r + 1) (M := M) (x2 := (c : Int)) (h := h) hl (by rw [if_neg (by omega)]) (by omega) (by omega) (by omega) (CX_TF tC hT) ⟨by rw [to _ _ (by omega)]; exact s6, by rw [ht, gw1_1, if_pos ⟨rfl, rfl⟩], by rw [to _ _ (by omega)]; exact s8, fun i j q => by rw [to _ _ (by omega)]; exact sc i j (by omega)⟩ ⟨by omega, i2, by omega, by omega, by omega⟩ c0
        rw [u1, Option.bind_some]
        rcases u3 with ⟨f1, f2, f3⟩ | ⟨k', p', c', h', e1, e2, e3, e4, e5, e6, e7, e8, e9, e10, e11, e12, e13, e14⟩
        · obtain ⟨n, rfl⟩ : ∃ n', n = n' + 1 := ⟨n - 1, by omega⟩
          rw [fl_143 f1 f2]
          exact ⟨u, rfl, CX_tr tC u2, f3.symm, fun q => absurd (f3.symm.trans q) f1⟩
        · have ec : c' = c := by
            obtain ⟨_, _, z3, _, _⟩ := e5
            omega
          rw [ec] at e5 e6 e7 e13 e14 e1
          rw [e1]
          obtain ⟨v, v1', v2, v3⟩ := ih n (r + 1) k' p' c 1 c h' u (by omega) (by omega) e2 e3 e4 e5 e6 e7 e8 e9 e10 e11 e12 e13 e14 (CX_TF u2 (CX_TF tC hT))
          exact ⟨v, v1', CX_tr tC (CX_tr u2 v2), v3⟩
    · rw [if_pos a, if_neg a]
      unfold gm_143_112
      rw [sp_138 f6, Option.bind_some, if_neg (fun q => (gbD s).mp q s6), if_pos (show -2147483648 ≤ (l : Int) ∧ (l : Int) ≤ 2147483647 by omega)]
      have dn : RW_ s (-1, r + 1, c, h) := ⟨s6, fun _ => ⟨s8, s9, fun i j hi hj => sc i j (by
        have hi : i < r + 1 := hi
        have hj : j < c := hj
        omega)⟩⟩
      by_cases b : l = 0
      · rw [if_pos (show (l : Int) = 0 by omega), if_neg (show ¬ (¬ l = 0 ∧ r + 1 < M) from fun q => q.1 b)]
        exact ⟨s, rfl, CX_rf s, dn⟩
      · rw [if_neg (show ¬ (l : Int) = 0 by omega)]
        show ∃ u : gx_S, (if -2147483648 ≤ (s.1 215 8) ∧ (s.1 215 8) ≤ 2147483647 then (if -2147483648 ≤ (M : Int) ∧ (M : Int) ≤ 2147483647 then (if (M : Int) ≤ (s.1 215 8) then some s else ((gm_139 4 (s.1 215 5) s).bind fun q10 => some q10)) else none) else none) = _ ∧ _
        rw [s8, if_pos (show -2147483648 ≤ ((r + 1 : Nat) : Int) ∧ ((r + 1 : Nat) : Int) ≤ 2147483647 by omega), if_pos (show -2147483648 ≤ (M : Int) ∧ (M : Int) ≤ 2147483647 by omega)]
        by_cases d : r + 1 < M
        · have x6 : (gw1 s 215 6 (8 * (p : Int) + 4)).1 215 6 = 8 * (p : Int) + 4 := by rw [gw1_1, if_pos ⟨rfl, rfl⟩]
          rw [if_neg (show ¬ (M : Int) ≤ ((r + 1 : Nat) : Int) by omega), if_pos (show ¬ l = 0 ∧ r + 1 < M from ⟨b, d⟩), sp_139 f6, if_pos s6, Option.bind_some, s5]
          exact ⟨_, rfl, CX_1 s _ (by omega), x6, fun q => by
            have q : 8 * (p : Int) + 4 = -1 := q
            omega⟩
        · rw [if_pos (show (M : Int) ≤ ((r + 1 : Nat) : Int) by omega), if_neg (show ¬ (¬ l = 0 ∧ r + 1 < M) from fun q => d q.2)]
          exact ⟨s, rfl, CX_rf s, dn⟩
theorem sp_143 {L l R C : Nat} {tb : Nat → Int} {s : gx_S} (hl : l < 3) (hT : TF s L tb) (hR : s.1 216 0 = R) (hC : s.1 216 1 = C) (r8 : R ≤ 8) (c12 : C ≤ 12) (r1 : ¬ l = 0 → 1 ≤ R ∧ 1 ≤ C) : ∃ u : gx_S, gm_143 l s = some u ∧ CX s u ∧ RW_ u (lyw tb L l R C) := by
  have hL := hT.1
  obtain ⟨t, ht⟩ : ∃ t, t = gw1 (gw1 (gw1 s 215 5 0) 215 6 (-1)) 215 8 0 := ⟨_, rfl⟩
  have tC : CX s t := by rw [ht]; exact CX_tr (CX_1 s _ (by omega)) (CX_tr (CX_1 _ _ (by omega)) (CX_1 _ _ (by omega)))
  have t5 : t.1 215 5 = ((0 : Nat) : Int) := by rw [ht, gw1_1, if_neg (by omega), gw1_1, if_neg (by omega), gw1_1, if_pos ⟨rfl, rfl⟩]; rfl
  have t6 : t.1 215 6 = -1 := by rw [ht, gw1_1, if_neg (by omega), gw1_1, if_pos ⟨rfl, rfl⟩]
  have t8 : t.1 215 8 = ((0 : Nat) : Int) := by rw [ht, gw1_1, if_pos ⟨rfl, rfl⟩]; rfl
  have tR : t.1 216 0 = R := by rw [tC.2 _ _ (by omega) (by omega) (by omega)]; exact hR
  have tK : t.1 216 1 = C := by rw [tC.2 _ _ (by omega) (by omega) (by omega)]; exact hC
  have tT := CX_TF tC hT
  have st : gm_143 l s = ((gm_142 l (if (if l = 0 then 0 else 1) = 0 then -1 else ((if l = 0 then 12 else C : Nat) : Int)) t).bind fun q2 => gm_143_57 100000 l (if l = 0 then 8 else R : Nat) (q2.1 215 9) q2) := by
    unfold gm_143
    rw [if_pos (by omega), ← ht, tR]
    by_cases a : l = 0
    · rw [if_neg (show ¬ ¬ (l : Int) = 0 by omega)]
      unfold gm_143_30
      rw [if_pos (show -2147483648 ≤ (l : Int) ∧ (l : Int) ≤ 2147483647 by omega), if_neg (show ¬ ¬ (l : Int) = 0 by omega)]
      unfold gm_143_45
      rw [if_pos a, if_pos rfl, if_pos a]
      rfl
    · rw [if_pos (show ¬ (l : Int) = 0 by omega)]
      unfold gm_143_30
      rw [if_pos (show -2147483648 ≤ (l : Int) ∧ (l : Int) ≤ 2147483647 by omega), if_pos (show ¬ (l : Int) = 0 by omega), tK]
      unfold gm_143_45
      rw [if_neg a, if_neg (show ¬ (1 : Nat) = 0 by omega), if_neg a, if_neg a]
  have w0 : 0 < (if l = 0 then 12 else C) := by
    by_cases a : l = 0
    · rw [if_pos a]; omega
    · rw [if_neg a]; exact (r1 a).2
  have I : LI (if l = 0 then 8 else R) 0 0 (if l = 0 then 0 else 1) (if l = 0 then 12 else C) := by
    by_cases a : l = 0
    · rw [if_pos a, if_pos a, if_pos a]
      exact ⟨by omega, by omega, by omega, by omega, by omega⟩
    · rw [if_neg a, if_neg a, if_neg a]
      have := r1 a
      exact ⟨by omega, by omega, by omega, by omega, by omega⟩
  obtain ⟨u, u1, u2, u3⟩ := sp_142 (M := if l = 0 then 8 else R) (K := if l = 0 then 0 else 1) (w := if l = 0 then 12 else C) (k := L + 1) (p := 0) (r := 0) (x2 := if (if l = 0 then 0 else 1) = 0 then -1 else ((if l = 0 then 12 else C : Nat) : Int)) (h := fun _ _ => 0) hl rfl (by omega) (by omega) (by omega) tT ⟨t6, t5, t8, fun i j q => by omega⟩ I w0
  rw [st, u1, Option.bind_some]
  unfold lyw
  rcases u3 with ⟨f1, f2, f3⟩ | ⟨k', p', c', h', e1, e2, e3, e4, e5, e6, e7, e8, e9, e10, e11, e12, e13, e14⟩
  · rw [show (100000 : Nat) = 99999 + 1 from rfl, fl_143 f1 f2]
    exact ⟨u, rfl, CX_tr tC u2, f3.symm, fun q => absurd (f3.symm.trans q) f1⟩
  · obtain ⟨v, v1, v2, v3⟩ := sl_143_57 hl 8 100000 0 k' p' c' _ _ h' u (by have := I.2.1; omega) (by omega) e2 e3 e4 e5 e6 e7 e8 e9 e10 e11 e12 e13 e14 (CX_TF u2 tT)
    rw [e1, e13, v1]
    exact ⟨v, rfl, CX_tr tC (CX_tr u2 v2), v3⟩
end
section
/-! CALLS: layer -/
def orn (T l : Nat) : Nat := if T / 2 ^ l % 2 = 1 then T else T + 2 ^ l
theorem bset_n : ∀ T, T < 8 → ∀ l, l < 3 → bset (T : Nat) (l : Nat) = (orn T l : Nat) := by decide +kernel
theorem orn_r : ∀ T, T < 8 → ∀ l, l < 3 → orn T l < 8 ∧ ¬ orn T l = 0 ∧ ∀ l', l' < 3 → (orn T l / 2 ^ l' % 2 = 1 ↔ l' = l ∨ T / 2 ^ l' % 2 = 1) := by decide +kernel
/-- the map with another layer -/
def fy (f : Nat → Int) (l : Nat) (T : Int) (r c : Nat) (h : Nat → Int) (i : Nat) : Int := if i = 0 then r else if i = 1 then c else if i = 2 then T else if 52 + 96 * l ≤ i ∧ i < 148 + 96 * l then h (i - 52 - 96 * l) else f i
theorem fy_o {f : Nat → Int} {l : Nat} {T : Int} {r c : Nat} {h : Nat → Int} {i : Nat} (h1 : 3 ≤ i) (h2 : ¬ (52 + 96 * l ≤ i ∧ i < 148 + 96 * l)) : fy f l T r c h i = f i := by
  unfold fy
  rw [if_neg (by omega), if_neg (by omega), if_neg (by omega), if_neg h2]
theorem fy_l {f : Nat → Int} {l : Nat} {T : Int} {r c : Nat} {h : Nat → Int} {i : Nat} (h2 : i < 96) : fy f l T r c h (52 + 96 * l + i) = h i := by
  unfold fy
  rw [if_neg (by omega), if_neg (by omega), if_neg (by omega), if_pos (by omega), show 52 + 96 * l + i - 52 - 96 * l = i by omega]
/-- what the layers told become -/
def tl_ (f : Nat → Int) (r c : Nat) : Int := if f 0 = r ∧ f 1 = c then f 2 else 0
theorem kD {R C k : Nat} (hC : C ≤ 12) (hR : R ≤ 8) (hk : k < R * C) : k / C < R ∧ k % C < C ∧ k / C * C + k % C = k ∧ 12 * (k / C) + k % C < 96 ∧ k < 96 := by
  have h0 : 0 < C := Nat.pos_of_ne_zero fun h => by rw [h, Nat.mul_zero] at hk; omega
  have a : k / C < R := (Nat.div_lt_iff_lt_mul h0).mpr hk
  have b := Nat.mod_lt k h0
  have d : k / C * C + k % C = k := by rw [Nat.mul_comm]; exact Nat.div_add_mod k C
  have e := RC_96 hR hC
  exact ⟨a, b, d, by omega, by omega⟩
theorem fy_M {f : Nat → Int} {R C l r c : Nat} {h : Nat → Int} (M : MP f R C) (hl : l < 3) (hr : 1 ≤ r ∧ r ≤ 8) (hc : 1 ≤ c ∧ c ≤ 12) (h0 : ¬ l = 0 → f 2 % 2 = 1 ∧ r = R ∧ c = C) (hh : ∀ i j, i < r → j < c → 0 ≤ h (12 * i + j) ∧ h (12 * i + j) ≤ if l = 2 then 3 else 8) : MP (fy f l (bset (tl_ f r c) l) r c h) r c ∧ ∀ l', l' < 3 → bset (tl_ f r c) l / 2 ^ l' % 2 = 1 → l' = l ∨ (r = R ∧ c = C ∧ f 2 / 2 ^ l' % 2 = 1) := by
  obtain ⟨m1, m2, m3, m4, m5, m6, m7, m8, m10⟩ := M
  have tr : ∃ T : Nat, tl_ f r c = T ∧ T < 8 := by
    unfold tl_
    by_cases q : f 0 = r ∧ f 1 = c
    · rw [if_pos q]
      exact ⟨(f 2).toNat, by omega, by omega⟩
    · rw [if_neg q]
      exact ⟨0, rfl, by omega⟩
  obtain ⟨T, eT, hT⟩ := tr
  obtain ⟨o1, o2, o3⟩ := orn_r T hT l hl
  have eb : bset (tl_ f r c) l = (orn T l : Nat) := by rw [eT]; exact bset_n T hT l hl
  have pw : ∀ (x l' : Nat), l' < 3 → ((x : Int) / 2 ^ l' % 2 = 1 ↔ x / 2 ^ l' % 2 = 1) := fun x l' q => by
    rcases (show l' = 0 ∨ l' = 1 ∨ l' = 2 by omega) with e | e | e
    · rw [e]
      show (x : Int) / 1 % 2 = 1 ↔ x / 1 % 2 = 1
      omega
    · rw [e]
      show (x : Int) / 2 % 2 = 1 ↔ x / 2 % 2 = 1
      omega
    · rw [e]
      show (x : Int) / 4 % 2 = 1 ↔ x / 4 % 2 = 1
      omega
  have key : ∀ l', l' < 3 → bset (tl_ f r c) l / 2 ^ l' % 2 = 1 → l' = l ∨ (r = R ∧ c = C ∧ f 2 / 2 ^ l' % 2 = 1) := fun l' hl' q => by
    rw [eb] at q
    rcases (o3 l' hl').mp ((pw _ _ hl').mp q) with z | z
    · exact .inl z
    · refine .inr ?_
      unfold tl_ at eT
      by_cases y : f 0 = r ∧ f 1 = c
      · rw [if_pos y] at eT
        rw [eT]
        exact ⟨by omega, by omega, (pw _ _ hl').mpr z⟩
      · rw [if_neg y] at eT
        have : T = 0 := by omega
        rw [this, Nat.zero_div] at z
        omega
  have e2 : fy f l (bset (tl_ f r c) l) r c h 2 = (orn T l : Nat) := by
    unfold fy
    rw [if_neg (by omega), if_neg (by omega), if_pos rfl, eb]
  refine ⟨⟨⟨rfl, rfl, hr.2, hc.2⟩, by rw [e2]; omega, by rw [fy_o (by omega) (by omega)]; exact m3, by rw [fy_o (by omega) (by omega)]; exact m4, fun g hg => ⟨fun z hz => by rw [fy_o (by omega) (by omega)]; exact (m5 g hg).1 z hz, ?_⟩, fun i hi => by rw [fy_o (by omega) (by omega)]; exact m6 i hi, fun i hi => by rw [fy_o (by omega) (by omega)]; exact m7 i hi, fun l' hl' b k hk => ?_, fun _ => ⟨?_, hr.1, hc.1⟩⟩, key⟩
  · rw [sg_eq (g := fun z => f (5 + 9 * g + z)) fun z hz => fy_o (by omega) (by omega)]
    exact (m5 g hg).2
  · obtain ⟨k1, k2, k3, k4, k5⟩ := kD hc.2 hr.2 hk
    have b' : bset (tl_ f r c) l / 2 ^ l' % 2 = 1 := by
      rw [e2] at b
      rw [eb]
      exact b
    by_cases z : l' = l
    · rw [z, show 52 + 96 * l + 12 * (k / c) + k % c = 52 + 96 * l + (12 * (k / c) + k % c) by omega, fy_l k4]
      exact hh _ _ k1 k2
    · rcases key l' hl' b' with y | ⟨y1, y2, y3⟩
      · exact absurd y z
      · rw [fy_o (by omega) (by omega)]
        have := m8 l' hl' y3 k (by rw [← y1, ← y2]; exact hk)
        rw [← y2] at this
        exact this
  · have y : bset (tl_ f r c) l / 2 ^ 0 % 2 = 1 := by
      rw [eb]
      refine (pw _ _ (by omega)).mpr ((o3 0 (by omega)).mpr ?_)
      by_cases z : l = 0
      · exact .inl z.symm
      · obtain ⟨z1, z2, z3⟩ := h0 z
        refine .inr ?_
        have : tl_ f r c = f 2 := if_pos ⟨by omega, by omega⟩
        rw [this] at eT
        have q : (T : Int) / 2 ^ 0 % 2 = 1 := by
          rw [← eT]
          show f 2 / 1 % 2 = 1
          rw [Int.ediv_one]
          exact z1
        exact (pw _ _ (by omega)).mp q
    rw [e2]
    rw [eb] at y
    have y : ((orn T l : Nat) : Int) / 1 % 2 = 1 := y
    rw [Int.ediv_one] at y
    exact y
theorem sl_145_126 {l : Nat} (hl : l < 3) : ∀ (m j : Nat) (s : gx_S), 96 < m + j → j ≤ 96 → ∃ u : gx_S, gm_145_126 m l j s = some (s.1 216 0 * s.1 216 1, u) ∧ u.2 = s.2 ∧ (∀ k i, k ≠ 216 → u.1 k i = s.1 k i) ∧ ∀ i, u.1 216 i = if 52 + 96 * l + j ≤ i ∧ i < 148 + 96 * l then s.1 219 (i - 52 - 96 * l) else s.1 216 i := by
  intro m
  induction m with
  | zero => intro j s h; omega
  | succ m ih =>
    intro j s h hj
    rw [gm_145_126, if_pos (by omega)]
    by_cases q : j = 96
    · rw [if_pos (by omega)]
      exact ⟨s, rfl, rfl, fun _ _ _ => rfl, fun i => by rw [if_neg (by omega)]⟩
    · have ce : ((j : Int) + 1) = ((j + 1 : Nat) : Int) := rfl
      have i5 : ((j : Int)).toNat = j := by omega
      have i6 : ((52 + (96 * (l : Int))) + (j : Int)).toNat = 52 + 96 * l + j := by omega
      rw [if_neg (by omega), if_pos (by omega), if_pos (by omega), i5, i6, ce]
      obtain ⟨u, u1, u2, u3, u4⟩ := ih (j + 1) (gw1 s 216 (52 + 96 * l + j) (s.1 219 j)) (by omega) (by omega)
      rw [gw1_1, if_neg (by omega), gw1_1, if_neg (by omega)] at u1
      refine ⟨u, u1, u2, fun k i h1 => by rw [u3 k i h1, gw1_1, if_neg (fun x => h1 x.1)], fun i => ?_⟩
      rw [u4, gw1_1, gw1_1]
      by_cases y : i = 52 + 96 * l + j
      · rw [if_neg (show ¬ (52 + 96 * l + (j + 1) ≤ i ∧ i < 148 + 96 * l) by omega), if_pos (show (216 : Nat) = 216 ∧ i = 52 + 96 * l + j from ⟨rfl, y⟩), if_pos (show 52 + 96 * l + j ≤ i ∧ i < 148 + 96 * l by omega), y, show 52 + 96 * l + j - 52 - 96 * l = j by omega]
      · by_cases y2 : 52 + 96 * l + (j + 1) ≤ i ∧ i < 148 + 96 * l
        · rw [if_pos y2, if_neg (show ¬ ((219 : Nat) = 216 ∧ i - 52 - 96 * l = 52 + 96 * l + j) by omega), if_pos (show 52 + 96 * l + j ≤ i ∧ i < 148 + 96 * l by omega)]
        · rw [if_neg y2, if_neg (show ¬ ((216 : Nat) = 216 ∧ i = 52 + 96 * l + j) from fun x => y x.2), if_neg (show ¬ (52 + 96 * l + j ≤ i ∧ i < 148 + 96 * l) by omega)]
end
section
/-! CALLS: layer, whole -/
theorem sp_55 {d : gx_S} {f : Nat → Int} {l r c : Nat} (hl : l < 3) (hr : r ≤ 8) (hc : c ≤ 12) (e1 : d.1 58 1 = r) (e2 : d.1 58 2 = c) (m1 : d.1 1 4 = f 0) (m2 : d.1 1 5 = f 1) (m3 : d.1 1 6 = f 2) (h0 : 0 ≤ f 0 ∧ f 0 ≤ 8) (h1 : 0 ≤ f 1 ∧ f 1 ≤ 12) : ∃ u : gx_S, gm_55 1 l d = some u ∧ u.2 = d.2 ∧ u.1 1 4 = r ∧ u.1 1 5 = c ∧ u.1 1 6 = bset (tl_ f r c) l ∧ (∀ k j, k ≠ 2 → ¬ (k = 1 ∧ 4 ≤ j ∧ j ≤ 6) → u.1 k j = d.1 k j) ∧ ∀ j, u.1 2 j = if 96 * l ≤ j ∧ j < 96 * l + 96 then d.1 59 (j - 96 * l) else d.1 2 j := by
  have i2 : ((l : Int) * 96).toNat = 96 * l := by omega
  -- the tail, over any state that agrees
  have tail : ∀ (z : gx_S) (T : Int), z.2 = d.2 → (∀ k j, ¬ (k = 1 ∧ j = 6) → z.1 k j = d.1 k j) → z.1 1 6 = T → ∃ u : gx_S, gm_55_27 1 l z = some u ∧ u.2 = d.2 ∧ u.1 1 4 = r ∧ u.1 1 5 = c ∧ u.1 1 6 = bset T l ∧ (∀ k j, k ≠ 2 → ¬ (k = 1 ∧ 4 ≤ j ∧ j ≤ 6) → u.1 k j = d.1 k j) ∧ ∀ j, u.1 2 j = if 96 * l ≤ j ∧ j < 96 * l + 96 then d.1 59 (j - 96 * l) else d.1 2 j := fun z T z2 zo z6 => by
    obtain ⟨a, ha⟩ : ∃ a, a = gw1 z 1 4 (z.1 58 1) := ⟨_, rfl⟩
    obtain ⟨b, hb⟩ : ∃ b, b = gw1 a 1 5 (a.1 58 2) := ⟨_, rfl⟩
    have b6 : b.1 1 6 = T := by rw [hb, gw1_1, if_neg (by omega), ha, gw1_1, if_neg (by omega)]; exact z6
    have bo : ∀ k j, ¬ (k = 1 ∧ 4 ≤ j ∧ j ≤ 6) → b.1 k j = d.1 k j := fun k j q => by rw [hb, gw1_1, if_neg (by omega), ha, gw1_1, if_neg (by omega), zo k j (by omega)]
    unfold gm_55_27
    rw [if_pos (by omega), ← ha, ← hb, i2, b6]
    obtain ⟨w, hw⟩ : ∃ w, w = gw1 b 1 6 (bset T l) := ⟨_, rfl⟩
    have wo : ∀ k j, ¬ (k = 1 ∧ 4 ≤ j ∧ j ≤ 6) → w.1 k j = d.1 k j := fun k j q => by rw [hw, gw1_1, if_neg (by omega), bo k j q]
    refine ⟨gcp w 59 0 2 (96 * l) 96, by rw [hw]; rfl, ?_, ?_, ?_, ?_, fun k j q1 q2 => ?_, fun j => ?_⟩
    · show w.2 = d.2
      rw [hw, gw1_2, hb, gw1_2, ha, gw1_2, z2]
    · rw [gcp_1, if_neg (by omega), hw, gw1_1, if_neg (by omega), hb, gw1_1, if_neg (by omega), ha, gw1_1, if_pos ⟨rfl, rfl⟩, zo _ _ (by omega)]
      exact e1
    · rw [gcp_1, if_neg (by omega), hw, gw1_1, if_neg (by omega), hb, gw1_1, if_pos ⟨rfl, rfl⟩, ha, gw1_1, if_neg (by omega), zo _ _ (by omega)]
      exact e2
    · rw [gcp_1, if_neg (by omega), hw, gw1_1, if_pos ⟨rfl, rfl⟩]
    · rw [gcp_1, if_neg (by omega), wo k j q2]
    · rw [gcp_1]
      by_cases y : 96 * l ≤ j ∧ j < 96 * l + 96
      · rw [if_pos (by omega), if_pos y, wo _ _ (by omega), show 0 + (j - 96 * l) = j - 96 * l by omega]
      · rw [if_neg (by omega), if_neg y, wo _ _ (by omega)]
  unfold gm_55 tl_
  rw [if_pos (by decide +kernel), e1, m1, if_pos (by omega), if_pos (by omega)]
  have re : gm_55_22 1 l d = gm_55_27 1 l (gw1 d 1 6 0) := rfl
  by_cases a : f 0 = r
  · rw [if_neg (show ¬ ¬ (r : Int) = f 0 from fun t => t a.symm), e2, m2, if_pos (show -2147483648 ≤ (c : Int) ∧ (c : Int) ≤ 2147483647 by omega), if_pos (show -2147483648 ≤ f 1 ∧ f 1 ≤ 2147483647 by omega)]
    by_cases b : f 1 = c
    · rw [if_pos b.symm, if_pos (show f 0 = r ∧ f 1 = c from ⟨a, b⟩)]
      exact tail d (f 2) rfl (fun _ _ _ => rfl) m3
    · rw [if_neg (show ¬ (c : Int) = f 1 from fun t => b t.symm), if_neg (show ¬ (f 0 = r ∧ f 1 = c) from fun t => b t.2), re]
      exact tail (gw1 d 1 6 0) 0 rfl (fun k j q => by rw [gw1_1, if_neg q]) (by rw [gw1_1, if_pos ⟨rfl, rfl⟩])
  · rw [if_pos (show ¬ (r : Int) = f 0 from fun t => a t.symm), if_neg (show ¬ (f 0 = r ∧ f 1 = c) from fun t => a t.1), re]
    exact tail (gw1 d 1 6 0) 0 rfl (fun k j q => by rw [gw1_1, if_neg q]) (by rw [gw1_1, if_pos ⟨rfl, rfl⟩])
theorem sp_145t {y : gx_S} {f : Nat → Int} {l r c : Nat} (hl : l < 3) (hr : r ≤ 8) (hc : c ≤ 12) (e8 : y.1 215 8 = r) (e9 : y.1 215 9 = c) (e : y.1 216 = f) (h0 : 0 ≤ f 0 ∧ f 0 ≤ 8) (h1 : 0 ≤ f 1 ∧ f 1 ≤ 12) (hs : ¬ l = 0 → f 0 = r ∧ f 1 = c) : ∃ p : gx_S, (if (-2147483648 ≤ (l : Int) ∧ (l : Int) ≤ 2147483647) then (if ¬ (l : Int) = 0 then (gm_145_112 l y) else (if (-2147483648 ≤ (y.1 215 8) ∧ (y.1 215 8) ≤ 2147483647) then (if (-2147483648 ≤ (y.1 216 0) ∧ (y.1 216 0) ≤ 2147483647) then (if ¬ (y.1 215 8) = (y.1 216 0) then (gm_145_85 l y) else (if (-2147483648 ≤ (y.1 215 9) ∧ (y.1 215 9) ≤ 2147483647) then (if (-2147483648 ≤ (y.1 216 1) ∧ (y.1 216 1) ≤ 2147483647) then (if (y.1 215 9) = (y.1 216 1) then (gm_145_112 l y) else (gm_145_85 l y)) else none) else none)) else none) else none)) else none) = some ((r : Int) * (c : Int), p) ∧ p.2 = y.2 ∧ (∀ k i, k ≠ 216 → p.1 k i = y.1 k i) ∧ ∀ i, p.1 216 i = fy f l (bset (tl_ f r c) l) r c (y.1 219) i := by
  -- the tail
  have tail : ∀ (z : gx_S) (T : Int), z.2 = y.2 → (∀ k i, k ≠ 216 → z.1 k i = y.1 k i) → z.1 216 0 = r → z.1 216 1 = c → z.1 216 2 = T → (∀ i, 3 ≤ i → z.1 216 i = f i) → ∃ p : gx_S, gm_145_112 l z = some ((r : Int) * (c : Int), p) ∧ p.2 = y.2 ∧ (∀ k i, k ≠ 216 → p.1 k i = y.1 k i) ∧ ∀ i, p.1 216 i = fy f l (bset T l) r c (y.1 219) i := fun z T z2 zo z0 z1 zT z3 => by
    obtain ⟨w, hw⟩ : ∃ w, w = gw1 z 216 2 (bset (z.1 216 2) l) := ⟨_, rfl⟩
    have w0 : w.1 216 0 = r := by rw [hw, gw1_1, if_neg (by omega)]; exact z0
    have w1 : w.1 216 1 = c := by rw [hw, gw1_1, if_neg (by omega)]; exact z1
    obtain ⟨p, p1, p2, p3, p4⟩ := sl_145_126 hl 100000 0 w (by omega) (by omega)
    rw [w0, w1] at p1
    refine ⟨p, ?_, by rw [p2, hw, gw1_2, z2], fun k i q => by rw [p3 k i q, hw, gw1_1, if_neg (by omega), zo k i q], fun i => ?_⟩
    · have p1 : gm_145_126 100000 l 0 w = _ := p1
      rw [← p1, hw]
      rfl
    · rw [p4]
      by_cases q : 52 + 96 * l ≤ i ∧ i < 148 + 96 * l
      · rw [if_pos (by omega), hw, gw1_1, if_neg (by omega), zo 219 _ (by decide)]
        unfold fy
        rw [if_neg (by omega), if_neg (by omega), if_neg (by omega), if_pos q]
      · rw [if_neg (by omega), hw, gw1_1]
        unfold fy
        by_cases q0 : i = 0
        · rw [if_neg (by omega), if_pos q0, q0, z0]
        · rw [if_neg q0]
          by_cases q1 : i = 1
          · rw [if_neg (by omega), if_pos q1, q1, z1]
          · rw [if_neg q1]
            by_cases q2 : i = 2
            · rw [if_pos ⟨rfl, q2⟩, if_pos q2, zT]
            · rw [if_neg (by omega), if_neg q2, if_neg q, z3 i (by omega)]
  have t1 : f 0 = r → f 1 = c → ∃ p : gx_S, gm_145_112 l y = some ((r : Int) * (c : Int), p) ∧ p.2 = y.2 ∧ (∀ k i, k ≠ 216 → p.1 k i = y.1 k i) ∧ ∀ i, p.1 216 i = fy f l (bset (tl_ f r c) l) r c (y.1 219) i := fun a b => by
    have et : tl_ f r c = f 2 := if_pos ⟨a, b⟩
    rw [et]
    exact tail y (f 2) rfl (fun _ _ _ => rfl) (by rw [e]; exact a) (by rw [e]; exact b) (by rw [e]) (fun i _ => by rw [e])
  have t2 : ¬ (f 0 = r ∧ f 1 = c) → ∃ p : gx_S, gm_145_85 l y = some ((r : Int) * (c : Int), p) ∧ p.2 = y.2 ∧ (∀ k i, k ≠ 216 → p.1 k i = y.1 k i) ∧ ∀ i, p.1 216 i = fy f l (bset (tl_ f r c) l) r c (y.1 219) i := fun a => by
    have et : tl_ f r c = 0 := if_neg a
    obtain ⟨z1, hz1⟩ : ∃ z, z = gw1 y 216 2 0 := ⟨_, rfl⟩
    obtain ⟨z2, hz2⟩ : ∃ z, z = gw1 z1 216 0 (z1.1 215 8) := ⟨_, rfl⟩
    obtain ⟨z3, hz3⟩ : ∃ z, z = gw1 z2 216 1 (z2.1 215 9) := ⟨_, rfl⟩
    have x8 : z1.1 215 8 = r := by rw [hz1, gw1_1, if_neg (by omega)]; exact e8
    have x9 : z2.1 215 9 = c := by rw [hz2, gw1_1, if_neg (by omega), hz1, gw1_1, if_neg (by omega)]; exact e9
    rw [et]
    unfold gm_145_85
    rw [← hz1, ← hz2, ← hz3]
    refine tail z3 0 ?_ (fun k i q => ?_) ?_ ?_ ?_ fun i hi => ?_
    · rw [hz3, gw1_2, hz2, gw1_2, hz1, gw1_2]
    · rw [hz3, gw1_1, if_neg (by omega), hz2, gw1_1, if_neg (by omega), hz1, gw1_1, if_neg (by omega)]
    · rw [hz3, gw1_1, if_neg (by omega), hz2, gw1_1, if_pos ⟨rfl, rfl⟩, x8]
    · rw [hz3, gw1_1, if_pos ⟨rfl, rfl⟩, x9]
    · rw [hz3, gw1_1, if_neg (by omega), hz2, gw1_1, if_neg (by omega), hz1, gw1_1, if_pos ⟨rfl, rfl⟩]
    · rw [hz3, gw1_1, if_neg (by omega), hz2, gw1_1, if_neg (by omega), hz1, gw1_1, if_neg (by omega), e]
  rw [if_pos (by omega), e8, e9, e]
  by_cases z : l = 0
  · rw [if_neg (show ¬ ¬ (l : Int) = 0 by omega), if_pos (show -2147483648 ≤ (r : Int) ∧ (r : Int) ≤ 2147483647 by omega), if_pos (show -2147483648 ≤ f 0 ∧ f 0 ≤ 2147483647 by omega)]
    by_cases a : f 0 = r
    · rw [if_neg (show ¬ ¬ (r : Int) = f 0 from fun t => t a.symm), if_pos (show -2147483648 ≤ (c : Int) ∧ (c : Int) ≤ 2147483647 by omega), if_pos (show -2147483648 ≤ f 1 ∧ f 1 ≤ 2147483647 by omega)]
      by_cases b : f 1 = c
      · rw [if_pos b.symm]
        exact t1 a b
      · rw [if_neg (fun t => b t.symm)]
        exact t2 fun t => b t.2
    · rw [if_pos (show ¬ (r : Int) = f 0 from fun t => a t.symm)]
      exact t2 fun t => a t.1
  · rw [if_pos (show ¬ (l : Int) = 0 by omega)]
    exact t1 (hs z).1 (hs z).2
theorem inv_layer0 {s : gx_S} (h : INV s) {l : Nat} (hl : l < 3) (hO : ¬ l = 0 → s.1 216 2 / 2 ^ 0 % 2 = 1) : ∃ (r' : Int) (u w : gx_S), gm_87_26 l s = some (r', u) ∧ gm_145_26 l u = some (r', w) ∧ INV w ∧ u.1 216 = s.1 216 := by
  obtain ⟨f, R, C, n, pf, L, tb, c, r, v⟩ := id h
  have hL := v.2.1
  have cT := CV_TC c v
  have m := v.1
  have v0 : AV f R C 0 tb := ⟨v.1, by omega, fun i hi => absurd hi (by omega)⟩
  have hO : ¬ l = 0 → f 2 % 2 = 1 := fun q => by
    have := hO q
    rw [r.1] at this
    have this : f 2 / 1 % 2 = 1 := this
    rw [Int.ediv_one] at this
    exact this
  have r1 : ¬ l = 0 → 1 ≤ R ∧ 1 ≤ C := fun q => (m.2.2.2.2.2.2.2.2 (by have := hO q; omega)).2
  obtain ⟨u, u1, uC, u2⟩ := sp_34 (R := R) (C := C) hl cT (c.1.1.trans m.1.1) (c.1.2.1.trans m.1.2.1) m.1.2.2.1 m.1.2.2.2 fun q => (r1 q).1
  obtain ⟨Y, hY⟩ : ∃ Y, Y = lyw tb L l R C := ⟨_, rfl⟩
  rw [← hY] at u1 u2
  obtain ⟨y1, y2⟩ := lyt_r (tb := tb) (L := L) (l := l) (M := if l = 0 then 8 else R) (B := if l = 2 then 3 else 8) (fun x hx => by
    have := lvr_ l x
    exact ⟨by omega, this.2⟩) (L + 1) 0 0 0 (if l = 0 then 0 else 1) (if l = 0 then 12 else C) (fun _ _ => 0) (by omega) (by
    by_cases a : l = 0
    · rw [if_pos a, if_pos a, if_pos a]
      exact ⟨by omega, by omega, by omega, by omega, by omega⟩
    · rw [if_neg a, if_neg a, if_neg a]
      have := r1 a
      have := m.1
      exact ⟨by omega, by omega, by omega, by omega, by omega⟩) (fun i j q => by omega) (by omega) hL fun i hi => (v.2.2 i hi).1
  have eY : lyt tb L l (if l = 0 then 8 else R) (L + 1) 0 0 0 (if l = 0 then 0 else 1) (if l = 0 then 12 else C) (fun _ _ => 0) = Y := hY.symm
  rw [eY] at y1 y2
  have uo : ∀ k j, ¬ (58 ≤ k ∧ k ≤ 61) → u.1 k j = s.1 k j := fun k j q => uC.2 k j (by omega) (by omega)
  have c0 := CV_0 uo c
  have k0 := KC_0 uC.1 uo
  have r0 := RV_KC k0 r
  obtain ⟨b, hb⟩ : ∃ b, b = gw1 u 14 1 0 := ⟨_, rfl⟩
  rw [← hb] at c0 k0 r0
  -- the reference's reading
  have ref : ∀ t : gx_S, RV t f n pf L tb → ∃ w : gx_S, KF t w ∧ RV w f n pf 0 tb ∧ RW_ w Y ∧ gm_145_26 l t = if Y.1 = -1 then ((gm_132 w).bind fun q7 => if (-2147483648 ≤ (l : Int) ∧ (l : Int) ≤ 2147483647) then (if ¬ (l : Int) = 0 then (gm_145_112 l q7) else (if (-2147483648 ≤ (q7.1 215 8) ∧ (q7.1 215 8) ≤ 2147483647) then (if (-2147483648 ≤ (q7.1 216 0) ∧ (q7.1 216 0) ≤ 2147483647) then (if ¬ (q7.1 215 8) = (q7.1 216 0) then (gm_145_85 l q7) else (if (-2147483648 ≤ (q7.1 215 9) ∧ (q7.1 215 9) ≤ 2147483647) then (if (-2147483648 ≤ (q7.1 216 1) ∧ (q7.1 216 1) ≤ 2147483647) then (if (q7.1 215 9) = (q7.1 216 1) then (gm_145_112 l q7) else (gm_145_85 l q7)) else none) else none)) else none) else none)) else none) else some (-2 - Y.1, w) := fun t rt => by
    obtain ⟨y, z1, z2, z3, z4⟩ := sp_143 (R := R) (C := C) hl (RV_TF rt v) (by rw [rt.1]; exact m.1.1) (by rw [rt.1]; exact m.1.2.1) m.1.2.2.1 m.1.2.2.2 r1
    rw [← hY] at z3 z4
    obtain ⟨w, hw⟩ : ∃ w, w = gw1 y 215 4 0 := ⟨_, rfl⟩
    have wo : ∀ k j, ¬ (k = 215 ∧ j = 4) → w.1 k j = y.1 k j := fun k j q => by rw [hw, gw1_1, if_neg q]
    have w6 : w.1 215 6 = Y.1 := by rw [wo _ _ (by omega), z3]
    refine ⟨w, ⟨fun k j q => by rw [wo _ _ (by omega), z2.2 k j (by omega) (by omega) (by omega)], fun k j q => by rw [hw, gw1_2, z2.1]⟩, by rw [hw]; exact RV_0 (RV_CX z2 rt), ⟨w6, fun q => ?_⟩, ?_⟩
    · obtain ⟨q1, q2, q3⟩ := z4 q
      exact ⟨by rw [wo _ _ (by omega)]; exact q1, by rw [wo _ _ (by omega)]; exact q2, fun i j hi hj => by rw [wo _ _ (by omega)]; exact q3 i j hi hj⟩
    · unfold gm_145_26
      rw [z1, Option.bind_some, ← hw, sp_138 (by rw [w6]; unfold i32; omega), Option.bind_some, w6]
      by_cases z : Y.1 = -1
      · rw [if_pos (fun q => (gbD t).mp q z), if_pos z]
      · rw [if_neg (fun q => q ((gbD t).mpr z)), if_neg z]
  unfold gm_87_26
  rw [u1, Option.bind_some]
  show ∃ (r' : Int) (u' w : gx_S), (if (-2147483648 ≤ Y.1 ∧ Y.1 ≤ 2147483647) then (if Y.1 = -1 then ((gm_119 (gw1 u 14 1 0)).bind fun q6 => (gm_55 1 l q6).bind fun q8 => (gm_58 1 q8).bind fun q10 => some (q10.1, q10.2)) else some (((-2) - Y.1), (gw1 u 14 1 0))) else none) = some (r', u') ∧ _
  rw [if_pos (by omega), ← hb]
  by_cases z : Y.1 = -1
  · obtain ⟨x1, x2, x3, x4, x5⟩ := y2 z
    obtain ⟨g1, g2, g3⟩ := u2 z
    have e0 : b.1 216 = f := r0.1
    obtain ⟨d, d1, d2, d3, d4, d5, d6⟩ := act_pre3 c0 v0 e0
    have rr : 1 ≤ Y.2.1 ∧ Y.2.1 ≤ 8 := by
      by_cases a : l = 0
      · rw [if_pos a] at x1; omega
      · rw [if_neg a] at x1
        have := m.1
        omega
    have hsz : ¬ l = 0 → Y.2.1 = R ∧ Y.2.2.1 = C := fun q => by
      have a := x3 q
      have b := x4 (if_neg q)
      rw [if_neg q] at a b
      exact ⟨a, b⟩
    have m1 := m.1
    have dY1 : d.1 58 1 = Y.2.1 := by rw [d5 _ _ (by omega) (by omega), hb, gw1_1, if_neg (by omega)]; exact g1
    have dY2 : d.1 58 2 = Y.2.2.1 := by rw [d5 _ _ (by omega) (by omega), hb, gw1_1, if_neg (by omega)]; exact g2
    obtain ⟨u', p1, p2, p3, p4, p5, p6, p7⟩ := sp_55 (f := f) hl rr.2 x2.2 dY1 dY2 d3.1 d3.2.1 d3.2.2.1 (by omega) (by omega)
    rw [if_pos z, d1, Option.bind_some, p1, Option.bind_some]
    have k6 : ∀ k j, 6 ≤ k → u'.1 k j = d.1 k j := fun k j q => p6 k j (by omega) (by omega)
    have kc : KC b u' := ⟨fun k j q => by rw [k6 k j (by omega), d5 k j (by omega) (by omega)], fun k j _ => by rw [p2, d2]⟩
    obtain ⟨w, w1, w2, w3, w4⟩ := ref u' (RV_KC kc r0)
    obtain ⟨y, q1, q2, q3, q4⟩ := d6 u' w k6 p2 w1 w2
    obtain ⟨t1, t2, t3⟩ := w3.2 z
    have y219 : ∀ i j, i < Y.2.1 → j < Y.2.2.1 → y.1 219 (12 * i + j) = Y.2.2.2 i j := fun i j hi hj => by rw [q3 219 _ (by decide) (by omega)]; exact t3 i j hi hj
    obtain ⟨o, o1, o2, o3, o4⟩ := sp_145t (y := y) (f := f) hl rr.2 x2.2 (by rw [q3 215 8 (by decide) (by omega)]; exact t1) (by rw [q3 215 9 (by decide) (by omega)]; exact t2) q2 (by omega) (by omega) fun q => by
      have := hsz q
      omega
    obtain ⟨MM, MB⟩ := fy_M (h := y.1 219) m hl rr x2 (fun q => ⟨hO q, hsz q⟩) fun i j hi hj => by
      rw [y219 i j hi hj]
      exact x5 i j hi hj
    refine ⟨(Y.2.1 : Int) * (Y.2.2.1 : Int), u', o, ?_, ?_, q4 o (fy f l (bset (tl_ f Y.2.1 Y.2.2.1) l) Y.2.1 Y.2.2.1 (y.1 219)) Y.2.1 Y.2.2.1 o3 o2 MM ?_ fun i hi => o4 i, ?_⟩
    · unfold gm_58
      rw [if_pos (by decide +kernel), Option.bind_some, p3, p4]
    · rw [w4, if_pos z, q1, Option.bind_some, o1]
    · obtain ⟨n1, n2, n3, n4, n5, n6, n7, n8, n9⟩ := d3
      refine ⟨p3, p4, p5, ?_, ?_, fun i hi => ?_, fun i hi => ?_, fun i hi => ?_, fun l' hl' bb k hk => ?_⟩
      · rw [p6 _ _ (by omega) (by omega), fy_o (by omega) (by omega)]; exact n4
      · rw [p6 _ _ (by omega) (by omega), fy_o (by omega) (by omega)]; exact n5
      · rw [p6 _ _ (by omega) (by omega), fy_o (by omega) (by omega)]; exact n6 i hi
      · rw [p6 _ _ (by omega) (by omega), fy_o (by omega) (by omega)]; exact n7 i hi
      · rw [p6 _ _ (by omega) (by omega), fy_o (by omega) (by omega)]; exact n8 i hi
      · obtain ⟨k1, k2, k3, k4, k5⟩ := kD x2.2 rr.2 hk
        rw [show (1 : Nat) + 1 = 2 from rfl, p7]
        by_cases a : l' = l
        · rw [a, if_pos (by omega), show 96 * l + k - 96 * l = k by omega, show 52 + 96 * l + 12 * (k / Y.2.2.1) + k % Y.2.2.1 = 52 + 96 * l + (12 * (k / Y.2.2.1) + k % Y.2.2.1) by omega, fy_l k4, y219 _ _ k1 k2, d5 _ _ (by omega) (by omega), hb, gw1_1, if_neg (by omega)]
          have := g3 _ _ k1 k2
          rw [k3] at this
          exact this
        · rcases MB l' hl' bb with e | ⟨e1, e2, e3⟩
          · exact absurd e a
          · rw [if_neg (by omega), fy_o (by omega) (by omega)]
            have := n9 l' hl' e3 k (by rw [← e1, ← e2]; exact hk)
            rw [← e2] at this
            exact this
    · funext i
      rw [k6 216 i (by omega), d4, r.1]
  · rw [if_neg z]
    obtain ⟨w, w1, w2, w3, w4⟩ := ref b r0
    exact ⟨_, b, w, rfl, w4.trans (if_neg z), ⟨f, R, C, n, pf, 0, tb, CV_KF w1 c0, w2, v0⟩, by rw [r.1]; exact r0.1⟩
theorem inv_layer {s : gx_S} (h : INV s) {x : Int} (hx : i32 x) : two s (gm_87 x) (gm_145 x) := by
  obtain ⟨f, R, C, n, pf, L, tb, c, r, v⟩ := id h
  have hx' := hx
  unfold i32 at hx'
  have nope : (gm_87 x s = some (-1, s)) → gm_145 x s = some (-1, s) → two s (gm_87 x) (gm_145 x) := fun a b => ⟨-1, s, s, a, b, h⟩
  have c145 : ∀ y : gx_S, gm_145 x y = if 0 ≤ x ∧ x ≤ 2 then (if x = 0 then gm_145_26 x y else ((gm_144 0 y).bind fun q56 => if ¬ (gb q56.1) = 0 then gm_145_26 x q56.2 else some (-1, q56.2))) else some (-1, y) := fun y => by
    unfold gm_145
    rw [if_pos hx', in_ y hx (by omega) (by omega), Option.bind_some]
    by_cases a : 0 ≤ x ∧ x ≤ 2
    · rw [if_neg (fun q => (gbD y).mp q a), if_pos a]
    · rw [if_pos ((gbD y).mpr a), if_neg a]
  by_cases a : 0 ≤ x ∧ x ≤ 2
  · obtain ⟨l, rfl⟩ : ∃ l : Nat, x = l := ⟨x.toNat, by omega⟩
    by_cases b : l = 0
    · have g1 : gm_87 l = gm_87_26 l := by
        funext y
        unfold gm_87
        rw [if_pos hx', if_neg (by omega), if_neg (by omega), if_pos (by omega)]
      have g2 : gm_145 l = gm_145_26 l := by
        funext y
        rw [c145 y, if_pos a, if_pos (by omega)]
      rw [g1, g2]
      obtain ⟨r', u, w, t1, t2, t3, _⟩ := inv_layer0 h (l := l) (by omega) fun q => absurd b q
      exact ⟨r', u, w, t1, t2, t3⟩
    · have e6 : s.1 1 6 = f 2 := c.1.2.2.1
      have c56 := sp_56 (s := s) (a := 1) (by decide +kernel) 0 (by omega) (by rw [e6]; exact v.1.2.1)
      rw [e6] at c56
      have c56 : gm_56 1 0 s = some (decide (f 2 / 2 ^ 0 % 2 = 1), s) := c56
      have g1 : gm_87 l s = if f 2 / 2 ^ 0 % 2 = 1 then gm_87_26 l s else some (-1, s) := by
        unfold gm_87
        rw [if_pos hx', if_neg (by omega), if_neg (by omega), if_neg (by omega), c56, Option.bind_some]
        by_cases d : f 2 / 2 ^ 0 % 2 = 1
        · rw [if_pos (fun q => (gbD s).mp q d), if_pos d]
        · rw [if_neg (fun q => q ((gbD s).mpr d)), if_neg d]
      have g2 : ∀ y : gx_S, y.1 216 = f → gm_145 l y = if f 2 / 2 ^ 0 % 2 = 1 then gm_145_26 l y else some (-1, y) := fun y ey => by
        have q4 := sp_144 (s := y) 0 (by omega) (by rw [ey]; exact v.1.2.1)
        rw [ey] at q4
        have q4 : gm_144 0 y = some (decide (f 2 / 2 ^ 0 % 2 = 1), y) := q4
        rw [c145 y, if_pos a, if_neg (by omega), q4, Option.bind_some]
        by_cases d : f 2 / 2 ^ 0 % 2 = 1
        · rw [if_pos (fun q => (gbD s).mp q d), if_pos d]
        · rw [if_neg (fun q => q ((gbD s).mpr d)), if_neg d]
      by_cases d : f 2 / 2 ^ 0 % 2 = 1
      · obtain ⟨r', u, w, t1, t2, t3, t4⟩ := inv_layer0 h (l := l) (by omega) fun _ => by rw [r.1]; exact d
        exact ⟨r', u, w, by rw [g1, if_pos d, t1], by rw [g2 u (t4.trans r.1), if_pos d, t2], t3⟩
      · exact nope (by rw [g1, if_neg d]) (by rw [g2 s r.1, if_neg d])
  · refine nope ?_ (by rw [c145 s, if_neg a])
    unfold gm_87
    rw [if_pos hx']
    by_cases b : x < 0
    · rw [if_pos b]
    · rw [if_neg b, if_pos (by omega)]
end
section
/-! FEED: the bytes of an int -/
theorem by_m (i : Nat) (h : i < 32) : (255#32).getLsbD i = decide (i < 8) := by
  have : ∀ i, i < 32 → (255#32).getLsbD i = decide (i < 8) := by decide +kernel
  exact this i h
theorem by_b (b : BitVec 32) (n : Nat) (hn : n ≤ 24) : (((((b.sshiftRight n).signExtend 8).signExtend 32).signExtend 8).signExtend 32 &&& 255#32) = ((b >>> n) &&& 255#32) := by
  apply BitVec.eq_of_getLsbD_eq
  intro i hi
  rw [BitVec.getLsbD_and, BitVec.getLsbD_and, by_m i hi]
  by_cases h : i < 8
  · rw [BitVec.getLsbD_signExtend, BitVec.getLsbD_signExtend, BitVec.getLsbD_signExtend, BitVec.getLsbD_signExtend, BitVec.getLsbD_sshiftRight, BitVec.getLsbD_ushiftRight]
    have a : n + i < 32 := by omega
    simp [h, hi, a, show ¬ 32 ≤ i by omega]
  · rw [decide_eq_false h, Bool.and_false, Bool.and_false]
def cby (x k : Int) : Int := ((Int32.ofInt ((((Int32.ofInt x).toUInt32 >>> ((Int32.ofInt k).toUInt32 &&& Int32.toUInt32 31)).toInt32).toInt) &&& Int32.ofInt 255)).toInt
def rb_ (x k : Int) : Int := gn3 (((Int32.ofInt (((Int32.ofInt x >>> (Int32.ofInt k &&& 31))).toInt)).toInt8.toInt32).toInt)
theorem cby_r (x k : Int) : 0 ≤ cby x k ∧ cby x k ≤ 255 := by
  unfold cby
  obtain ⟨Y, hY⟩ : ∃ Y : Int32, Y = Int32.ofInt ((((Int32.ofInt x).toUInt32 >>> ((Int32.ofInt k).toUInt32 &&& Int32.toUInt32 31)).toInt32).toInt) := ⟨_, rfl⟩
  rw [← hY]
  have e : (Y &&& Int32.ofInt 255).toInt = (Y.toBitVec &&& 255#32).toInt := rfl
  have n : (Y.toBitVec &&& 255#32).toNat ≤ 255 := by
    rw [BitVec.toNat_and]
    exact Nat.and_le_right
  rw [e, BitVec.toInt_eq_toNat_of_lt (by omega)]
  omega
theorem by_s (X : Int32) (n : Nat) (k : Int) (h : (n = 24 ∧ k = 24) ∨ (n = 16 ∧ k = 16) ∨ (n = 8 ∧ k = 8) ∨ (n = 0 ∧ k = 0)) : (X >>> (Int32.ofInt k &&& 31)).toBitVec = X.toBitVec.sshiftRight n := by
  have e : ((Int32.ofInt k &&& 31).toBitVec.smod 32).toNat = n := by
    rcases h with ⟨h1, h2⟩ | ⟨h1, h2⟩ | ⟨h1, h2⟩ | ⟨h1, h2⟩
    · rw [h1, h2]; decide +kernel
    · rw [h1, h2]; decide +kernel
    · rw [h1, h2]; decide +kernel
    · rw [h1, h2]; decide +kernel
  rw [Int32.toBitVec_shiftRight, BitVec.sshiftRight', e]
theorem by_u (X : UInt32) (n : Nat) (k : Int) (h : (n = 24 ∧ k = 24) ∨ (n = 16 ∧ k = 16) ∨ (n = 8 ∧ k = 8) ∨ (n = 0 ∧ k = 0)) : (X >>> ((Int32.ofInt k).toUInt32 &&& Int32.toUInt32 31)).toBitVec = X.toBitVec >>> n := by
  have e : (((Int32.ofInt k).toUInt32 &&& Int32.toUInt32 31).toBitVec % 32).toNat = n := by
    rcases h with ⟨h1, h2⟩ | ⟨h1, h2⟩ | ⟨h1, h2⟩ | ⟨h1, h2⟩
    · rw [h1, h2]; decide +kernel
    · rw [h1, h2]; decide +kernel
    · rw [h1, h2]; decide +kernel
    · rw [h1, h2]; decide +kernel
  rw [UInt32.toBitVec_shiftRight, BitVec.ushiftRight_eq', e]
theorem by_k (X : Int32) (n : Nat) (k : Int) (h : (n = 24 ∧ k = 24) ∨ (n = 16 ∧ k = 16) ∨ (n = 8 ∧ k = 8) ∨ (n = 0 ∧ k = 0)) : ((X >>> (Int32.ofInt k &&& 31)).toInt8.toInt32.toInt8.toInt32 &&& Int32.ofInt 255) = ((X.toUInt32 >>> ((Int32.ofInt k).toUInt32 &&& Int32.toUInt32 31)).toInt32 &&& Int32.ofInt 255) := by
  have e := by_b X.toBitVec n (by omega)
  have a := by_s X n k h
  have b := by_u X.toUInt32 n k h
  refine Int32.toBitVec_inj.mp ?_
  have e1 : ((X >>> (Int32.ofInt k &&& 31)).toInt8.toInt32.toInt8.toInt32 &&& Int32.ofInt 255).toBitVec = ((((((X >>> (Int32.ofInt k &&& 31)).toBitVec).signExtend 8).signExtend 32).signExtend 8).signExtend 32 &&& 255#32) := by
    rw [Int32.toBitVec_and, Int8.toBitVec_toInt32, Int32.toBitVec_toInt8, Int8.toBitVec_toInt32, Int32.toBitVec_toInt8, show (Int32.ofInt 255).toBitVec = 255#32 by decide +kernel]
  have e2 : ((X.toUInt32 >>> ((Int32.ofInt k).toUInt32 &&& Int32.toUInt32 31)).toInt32 &&& Int32.ofInt 255).toBitVec = ((X.toUInt32 >>> ((Int32.ofInt k).toUInt32 &&& Int32.toUInt32 31)).toBitVec &&& 255#32) := rfl
  rw [e1, e2, a, b, e]
  rfl
theorem cb_rb {x k : Int} (h : k = 24 ∨ k = 16 ∨ k = 8 ∨ k = 0) : (Int32.ofInt (rb_ x k) &&& Int32.ofInt 255).toInt = cby x k := by
  have e : Int32.ofInt (rb_ x k) = (Int32.ofInt x >>> (Int32.ofInt k &&& 31)).toInt8.toInt32.toInt8.toInt32 := by
    unfold rb_ gn3
    rw [Int32.ofInt_toInt, Int32.ofInt_toInt, Int32.ofInt_toInt]
    rfl
  unfold cby
  rw [e, Int32.ofInt_toInt, by_k (Int32.ofInt x) k.toNat k (by omega)]
end
section
/-! CALLS: feed -/
def app (tb : Nat → Int) (L : Nat) (x : Int) (i : Nat) : Int := if i = L then cby x 24 else if i = L + 1 then cby x 16 else if i = L + 2 then cby x 8 else if i = L + 3 then cby x 0 else tb i
def ap1 (tb : Nat → Int) (L : Nat) (v : Int) (i : Nat) : Int := if i = L then v else tb i
theorem app_1 (tb : Nat → Int) (L : Nat) (x : Int) (i : Nat) : ap1 (ap1 (ap1 (ap1 tb L (cby x 24)) (L + 1) (cby x 16)) (L + 2) (cby x 8)) (L + 3) (cby x 0) i = app tb L x i := by
  unfold ap1 app
  by_cases a : i = L
  · rw [if_neg (by omega), if_neg (by omega), if_neg (by omega), if_pos a, if_pos a]
  · rw [if_neg a, if_neg a]
    by_cases b : i = L + 1
    · rw [if_neg (by omega), if_neg (by omega), if_pos b, if_pos b]
    · rw [if_neg b, if_neg b]
      by_cases c : i = L + 2
      · rw [if_neg (by omega), if_pos c, if_pos c]
      · rw [if_neg c, if_neg c]
def TAc (s : gx_S) (L : Nat) (tb : Nat → Int) : Prop := s.1 14 1 = L ∧ ∀ i, i < L → s.1 15 i = tb i
def TAr (s : gx_S) (L : Nat) (tb : Nat → Int) : Prop := s.1 215 4 = L ∧ ∀ i, i < L → (Int32.ofInt (s.1 218 i) &&& Int32.ofInt 255).toInt = tb i
def FC (s u : gx_S) : Prop := u.2 = s.2 ∧ ∀ k j, k ≠ 15 → ¬ (k = 14 ∧ j = 1) → u.1 k j = s.1 k j
def FR_ (s u : gx_S) : Prop := u.2 = s.2 ∧ ∀ k j, k ≠ 218 → ¬ (k = 215 ∧ j = 4) → u.1 k j = s.1 k j
theorem FC_tr {s t u : gx_S} (a : FC s t) (b : FC t u) : FC s u := ⟨b.1.trans a.1, fun k j h1 h2 => (b.2 k j h1 h2).trans (a.2 k j h1 h2)⟩
theorem FR_tr {s t u : gx_S} (a : FR_ s t) (b : FR_ t u) : FR_ s u := ⟨b.1.trans a.1, fun k j h1 h2 => (b.2 k j h1 h2).trans (a.2 k j h1 h2)⟩
theorem st_82 {n : Nat} {x k : Int} {s : gx_S} {L : Nat} {tb : Nat → Int} (hk : 0 ≤ k ∧ k ≤ 24) (hL : L < 200) (T : TAc s L tb) : ∃ u : gx_S, gm_82_3 (n + 1) x k s = gm_82_3 n x (k - 8) u ∧ FC s u ∧ TAc u (L + 1) (ap1 tb L (cby x k)) := by
  obtain ⟨t1, t2⟩ := T
  have cl : ((L : Int) + 1) = ((L + 1 : Nat) : Int) := rfl
  rw [gm_82_3, if_pos (by omega), if_neg (by omega), t1, if_pos (by omega), if_neg (by omega), if_pos (by omega), show ((L : Int)).toNat = L by omega]
  have x1 : (gw1 s 15 L (cby x k)).1 14 1 = L := by rw [gw1_1, if_neg (by omega)]; exact t1
  show ∃ u : gx_S, gm_82_3 n x (k + -8) (gw1 (gw1 s 15 L (cby x k)) 14 1 ((gw1 s 15 L (cby x k)).1 14 1 + 1)) = _ ∧ _
  rw [x1, cl, show k + -8 = k - 8 from rfl]
  refine ⟨_, rfl, ⟨rfl, fun k j h1 h2 => by rw [gw1_1, if_neg h2, gw1_1, if_neg (fun t => h1 t.1)]⟩, by rw [gw1_1, if_pos ⟨rfl, rfl⟩], fun i hi => ?_⟩
  rw [gw1_1, if_neg (by omega), gw1_1]
  unfold ap1
  by_cases z : i = L
  · rw [if_pos ⟨rfl, z⟩, if_pos z]
  · rw [if_neg (fun t => z t.2), if_neg z]
    exact t2 i (by omega)
theorem st_135 {n : Nat} {x k : Int} {s : gx_S} {L : Nat} {tb : Nat → Int} (hk : k = 24 ∨ k = 16 ∨ k = 8 ∨ k = 0) (hL : L < 200) (T : TAr s L tb) : ∃ u : gx_S, gm_135_3 (n + 1) x k s = gm_135_3 n x (k - 8) u ∧ FR_ s u ∧ TAr u (L + 1) (ap1 tb L (cby x k)) := by
  obtain ⟨t1, t2⟩ := T
  have cl : ((L : Int) + 1) = ((L + 1 : Nat) : Int) := rfl
  rw [gm_135_3, if_pos (by omega), if_neg (by omega), t1, if_pos (by omega), show ((L : Int)).toNat = L by omega]
  have x1 : (gw1 s 218 L (rb_ x k)).1 215 4 = L := by rw [gw1_1, if_neg (by omega)]; exact t1
  show ∃ u : gx_S, gm_135_3 n x (k + -8) (gw1 (gw1 s 218 L (rb_ x k)) 215 4 ((gw1 s 218 L (rb_ x k)).1 215 4 + 1)) = _ ∧ _
  rw [x1, cl, show k + -8 = k - 8 from rfl]
  refine ⟨_, rfl, ⟨rfl, fun k j h1 h2 => by rw [gw1_1, if_neg h2, gw1_1, if_neg (fun t => h1 t.1)]⟩, by rw [gw1_1, if_pos ⟨rfl, rfl⟩], fun i hi => ?_⟩
  rw [gw1_1, if_neg (by omega), gw1_1]
  unfold ap1
  by_cases z : i = L
  · rw [if_pos ⟨rfl, z⟩, if_pos z]
    exact cb_rb hk
  · rw [if_neg (fun t => z t.2), if_neg z]
    exact t2 i (by omega)
theorem sp_82 {x : Int} {s : gx_S} {L : Nat} {tb : Nat → Int} (hL : L + 4 ≤ 200) (T : TAc s L tb) : ∃ u : gx_S, gm_82 x s = some u ∧ FC s u ∧ TAc u (L + 4) (app tb L x) := by
  obtain ⟨a, a1, a2, a3⟩ := st_82 (n := 99999) (x := x) (k := 24) (by omega) (by omega) T
  obtain ⟨b, b1, b2, b3⟩ := st_82 (n := 99998) (x := x) (k := 16) (by omega) (by omega) a3
  obtain ⟨c, c1, c2, c3⟩ := st_82 (n := 99997) (x := x) (k := 8) (by omega) (by omega) b3
  obtain ⟨d, d1, d2, d3⟩ := st_82 (n := 99996) (x := x) (k := 0) (by omega) (by omega) c3
  have e : gm_82_3 99996 x (0 - 8) d = some d := by
    rw [show (99996 : Nat) = 99995 + 1 from rfl, gm_82_3, if_pos (by decide), if_pos (by decide)]
  have a1 : gm_82_3 100000 x 24 s = gm_82_3 99999 x 16 a := a1
  have b1 : gm_82_3 99999 x 16 a = gm_82_3 99998 x 8 b := b1
  have c1 : gm_82_3 99998 x 8 b = gm_82_3 99997 x 0 c := c1
  refine ⟨d, ?_, FC_tr a2 (FC_tr b2 (FC_tr c2 d2)), d3.1, fun i hi => by rw [d3.2 i hi, app_1]⟩
  unfold gm_82
  rw [a1, b1, c1, d1, e]
theorem sp_135 {x : Int} {s : gx_S} {L : Nat} {tb : Nat → Int} (hL : L + 4 ≤ 200) (T : TAr s L tb) : ∃ u : gx_S, gm_135 x s = some u ∧ FR_ s u ∧ TAr u (L + 4) (app tb L x) := by
  obtain ⟨a, a1, a2, a3⟩ := st_135 (n := 99999) (x := x) (k := 24) (by omega) (by omega) T
  obtain ⟨b, b1, b2, b3⟩ := st_135 (n := 99998) (x := x) (k := 16) (by omega) (by omega) a3
  obtain ⟨c, c1, c2, c3⟩ := st_135 (n := 99997) (x := x) (k := 8) (by omega) (by omega) b3
  obtain ⟨d, d1, d2, d3⟩ := st_135 (n := 99996) (x := x) (k := 0) (by omega) (by omega) c3
  have e : gm_135_3 99996 x (0 - 8) d = some d := by
    rw [show (99996 : Nat) = 99995 + 1 from rfl, gm_135_3, if_pos (by decide), if_pos (by decide)]
  have a1 : gm_135_3 100000 x 24 s = gm_135_3 99999 x 16 a := a1
  have b1 : gm_135_3 99999 x 16 a = gm_135_3 99998 x 8 b := b1
  have c1 : gm_135_3 99998 x 8 b = gm_135_3 99997 x 0 c := c1
  refine ⟨d, ?_, FR_tr a2 (FR_tr b2 (FR_tr c2 d2)), d3.1, fun i hi => by rw [d3.2 i hi, app_1]⟩
  unfold gm_135
  rw [a1, b1, c1, d1, e]
def ap5 (tb : Nat → Int) (L : Nat) (a b c d e : Int) : Nat → Int := app (app (app (app (app tb L a) (L + 4) b) (L + 8) c) (L + 12) d) (L + 16) e
theorem app_r {tb : Nat → Int} {L : Nat} {x : Int} (h : ∀ i, i < L → 0 ≤ tb i ∧ tb i ≤ 255) (i : Nat) (hi : i < L + 4) : 0 ≤ app tb L x i ∧ app tb L x i ≤ 255 := by
  unfold app
  split
  · exact cby_r x 24
  · split
    · exact cby_r x 16
    · split
      · exact cby_r x 8
      · split
        · exact cby_r x 0
        · exact h i (by omega)
theorem inv_feed {s : gx_S} (h : INV s) (x1 x2 x3 x4 x5 : Int) : two s (gm_85 x1 x2 x3 x4 x5) (gm_134 x1 x2 x3 x4 x5) := by
  obtain ⟨f, R, C, n, pf, L, tb, c, r, v⟩ := id h
  have hL := v.2.1
  have e1 := c.2.2.2.1
  have e2 := r.2.2.1
  unfold two gm_85
  rw [e1, if_pos (by omega)]
  by_cases z : L + 20 ≤ 200
  · obtain ⟨a, a1, a2, a3⟩ := sp_82 (x := x1) (by omega) (T := show TAc s L tb from c.2.2.2)
    obtain ⟨b, b1, b2, b3⟩ := sp_82 (x := x2) (by omega) a3
    obtain ⟨d, d1, d2, d3⟩ := sp_82 (x := x3) (by omega) b3
    obtain ⟨e, e1, e2', e3⟩ := sp_82 (x := x4) (by omega) d3
    obtain ⟨u, u1, u2, u3⟩ := sp_82 (x := x5) (by omega) e3
    have uC : FC s u := FC_tr a2 (FC_tr b2 (FC_tr d2 (FC_tr e2' u2)))
    have rs : TAr u L tb := ⟨by rw [uC.2 _ _ (by omega) (by omega)]; exact r.2.2.1, fun i hi => by rw [uC.2 _ _ (by omega) (by omega)]; exact r.2.2.2.1 i hi⟩
    obtain ⟨A, A1, A2, A3⟩ := sp_135 (x := x1) (by omega) rs
    obtain ⟨B, B1, B2, B3⟩ := sp_135 (x := x2) (by omega) A3
    obtain ⟨D, D1, D2, D3⟩ := sp_135 (x := x3) (by omega) B3
    obtain ⟨E, E1, E2, E3⟩ := sp_135 (x := x4) (by omega) D3
    obtain ⟨w, w1, w2, w3⟩ := sp_135 (x := x5) (by omega) E3
    have wR : FR_ u w := FR_tr A2 (FR_tr B2 (FR_tr D2 (FR_tr E2 w2)))
    have e20 : L + 4 + 4 + 4 + 4 + 4 = L + 20 := by omega
    rw [if_pos (by omega), a1, Option.bind_some, b1, Option.bind_some, d1, Option.bind_some, e1, Option.bind_some, u1, Option.bind_some]
    refine ⟨((L + 4 + 4 + 4 + 4 + 4 : Nat) : Int), u, w, by rw [u3.1], ?_, f, R, C, n, pf, L + 4 + 4 + 4 + 4 + 4, _, ⟨?_, fun g hg => ?_, ?_, ?_, fun i hi => ?_⟩, ⟨?_, ⟨?_, fun k hk i hi => ?_⟩, w3.1, w3.2, ⟨fun j hj => ?_, fun q hq => ?_, fun i hi => ?_⟩⟩, v.1, by omega, ?_⟩
    · unfold gm_134
      rw [rs.1, if_pos (by omega), if_pos (by omega), A1, Option.bind_some, B1, Option.bind_some, D1, Option.bind_some, E1, Option.bind_some, w1, Option.bind_some, w3.1]
    · exact MR_o (fun k j q1 q2 => by rw [wR.2 k j (by omega) (by omega), uC.2 k j (by omega) (by omega)]) c.1
    · obtain ⟨D', z'⟩ := c.2.1 g hg
      exact ⟨D', GGD_o (fun k j q1 q2 => by rw [wR.2 k j (by omega) (by omega), uC.2 k j (by omega) (by omega)]) z'⟩
    · exact HC_o (fun k j q1 q2 => by rw [wR.2 k j (by omega) (by omega), uC.2 k j (by omega) (by omega)]) c.2.2.1
    · rw [wR.2 _ _ (by omega) (by omega)]
      exact u3.1
    · rw [wR.2 _ _ (by omega) (by omega)]
      exact u3.2 i hi
    · funext i
      rw [wR.2 _ _ (by omega) (by omega), uC.2 _ _ (by omega) (by omega), r.1]
    · rw [wR.2 _ _ (by omega) (by omega), uC.2 _ _ (by omega) (by omega)]
      exact r.2.1.1
    · rw [wR.2 _ _ (by omega) (by omega), uC.2 _ _ (by omega) (by omega)]
      exact r.2.1.2 k hk i hi
    · rw [wR.2 _ _ (by omega) (by omega), uC.2 _ _ (by omega) (by omega), wR.2 _ _ (by omega) (by omega), uC.2 _ _ (by omega) (by omega), wR.2 _ _ (by omega) (by omega), uC.2 _ _ (by omega) (by omega), wR.1, uC.1]
      exact r.2.2.2.2.1 j hj
    · rw [wR.2 _ _ (by omega) (by omega), uC.2 _ _ (by omega) (by omega), wR.1, uC.1]
      exact r.2.2.2.2.2.1 q hq
    · rw [wR.1, uC.1]
      exact r.2.2.2.2.2.2 i hi
    · exact fun i hi => app_r (fun i hi => app_r (fun i hi => app_r (fun i hi => app_r (fun i hi => app_r v.2.2 i hi) i hi) i hi) i hi) i hi
  · rw [if_neg (by omega)]
    refine ⟨-1, s, s, rfl, ?_, h⟩
    unfold gm_134
    rw [e2, if_pos (by omega), if_neg (by omega)]
end
section
/-! QUERIES: cell, people -/
/-- a query on both sides keeps all -/
theorem q_inv {s u w : gx_S} {f : Nat → Int} {R C n L : Nat} {pf : Nat → Nat → Int} {tb : Nat → Int} (k : KC s u) (c : CV u f R C n pf L tb) (r : RV s f n pf L tb) (v : AV f R C L tb) (kw : KRw u w) : INV w := ⟨f, R, C, n, pf, L, tb, CV_KF (KR_KF kw) c, RV_KR kw (RV_KC k r), v⟩
theorem CV_20 {s : gx_S} {f : Nat → Int} {R C n L g : Nat} {pf : Nat → Nat → Int} {tb : Nat → Int} (M : MP f R C) (hg : g < 3) (c : CV s f R C n pf L tb) : ∃ (D : Nat) (u : gx_S), gm_20 (71 + 48 * g) s = some u ∧ CV u f R C n pf L tb ∧ KG (71 + 48 * g) s u ∧ GGD u f R C g (71 + 48 * g) D ∧ D / 1 % 2 = 1 := by
  obtain ⟨c1, c2, c3, c4, c5⟩ := c
  obtain ⟨D0, d0⟩ := c2 g hg
  have a := ga_of hg
  obtain ⟨D, u, u1, u2, u3, u4⟩ := sp_20 c1 M hg a d0
  refine ⟨D, u, u1, ⟨KG_MR a u2 c1, fun g' hg' => ?_, HC_o (fun k j q1 q2 => u2.2 k j (by omega) (by omega)) c3, (u2.2 _ _ (by omega) (by omega)).trans c4, fun i hi => (u2.2 _ _ (by omega) (by omega)).trans (c5 i hi)⟩, u2, u3, u4⟩
  by_cases e : g' = g
  · rw [e]
    exact ⟨D, u3⟩
  · obtain ⟨D', d'⟩ := c2 g' hg'
    exact ⟨D', GGD_o (fun k j q1 q2 => u2.2 k j (by omega) (by omega)) d'⟩
theorem KC_rfl (s : gx_S) : KC s s := ⟨fun _ _ _ => rfl, fun _ _ _ => rfl⟩
theorem sp_59 {s : gx_S} {f : Nat → Int} {R C : Nat} {x y : Int} (m : MR s 1 f R C) (M : MP f R C) (hx : i32 x) (hy : i32 y) : gm_59 1 x y s = some (decide (0 ≤ x ∧ x < R ∧ 0 ≤ y ∧ y < C), s) := by
  unfold i32 at hx hy
  have m1 := M.1
  have e4 : s.1 1 4 = R := m.1.trans M.1.1
  have e5 : s.1 1 5 = C := m.2.1.trans M.1.2.1
  unfold gm_59
  rw [if_pos (by decide +kernel), if_pos hx, e4, e5]
  by_cases a : x < 0
  · rw [if_pos a, decide_eq_false (by omega)]
  · rw [if_neg a, if_pos (by omega)]
    by_cases b : R ≤ x
    · rw [if_pos b, decide_eq_false (by omega)]
    · rw [if_neg b, if_pos hy]
      by_cases c : y < 0
      · rw [if_pos c, decide_eq_false (by omega)]
      · rw [if_neg c, if_pos (by omega)]
        by_cases d : C ≤ y
        · rw [if_pos d, decide_eq_false (by omega)]
        · rw [if_neg d, decide_eq_true (by omega)]
theorem sp_198 {s : gx_S} {f : Nat → Int} {R C : Nat} {x y : Int} (e : s.1 216 = f) (M : MP f R C) (hx : i32 x) (hy : i32 y) : gm_198 x y s = some (decide (0 ≤ x ∧ x < R ∧ 0 ≤ y ∧ y < C), s) := by
  have hx' := hx
  have hy' := hy
  unfold i32 at hx' hy'
  have m1 := M.1
  unfold gm_198
  rw [if_pos hx', e, m1.1, if_pos (by omega), in_ s hx (by omega) (by omega), Option.bind_some]
  by_cases a : 0 ≤ x ∧ x ≤ (R : Int) - 1
  · rw [if_neg (fun q => (gbD s).mp q a), if_pos hy']
    show (if (-2147483648 ≤ ((s.1 216 1) - 1) ∧ ((s.1 216 1) - 1) ≤ 2147483647) then ((gm_130 y 0 ((s.1 216 1) - 1) s).bind fun q27 => if (gb q27.1) = 0 then some (false, q27.2) else some (true, q27.2)) else none) = _
    rw [e, m1.2.1, if_pos (by omega), in_ s hy (by omega) (by omega), Option.bind_some]
    by_cases b : 0 ≤ y ∧ y ≤ (C : Int) - 1
    · rw [if_neg (fun q => (gbD s).mp q b), decide_eq_true (show 0 ≤ x ∧ x < (R : Int) ∧ 0 ≤ y ∧ y < (C : Int) by omega)]
    · rw [if_pos ((gbD s).mpr b), decide_eq_false (show ¬ (0 ≤ x ∧ x < (R : Int) ∧ 0 ≤ y ∧ y < (C : Int)) by omega)]
  · rw [if_pos ((gbD s).mpr a), decide_eq_false (show ¬ (0 ≤ x ∧ x < (R : Int) ∧ 0 ≤ y ∧ y < (C : Int)) by omega)]
theorem inv_cell {s : gx_S} (h : INV s) {x y z : Int} (hx : i32 x) (hy : i32 y) (hz : i32 z) : two s (gm_95 x y z) (gm_218 x y z) := by
  obtain ⟨f, R, C, n, pf, L, tb, c, r, v⟩ := id h
  have hx' := hx
  unfold i32 at hx'
  have m1 := v.1.1
  have fin : ∀ q : Int, gm_95 x y z s = some (q, s) → gm_218 x y z s = some (q, s) → two s (gm_95 x y z) (gm_218 x y z) := fun q a b => ⟨q, s, s, a, b, h⟩
  by_cases a : 0 ≤ x ∧ x ≤ 2
  · obtain ⟨l, rfl⟩ : ∃ l : Nat, x = l := ⟨x.toNat, by omega⟩
    have e6 : s.1 1 6 = f 2 := c.1.2.2.1
    have c56 := sp_56 (s := s) (a := 1) (by decide +kernel) l (by omega) (by rw [e6]; exact v.1.2.1)
    have c44 := sp_144 (s := s) l (by omega) (by rw [r.1]; exact v.1.2.1)
    have c59 := sp_59 c.1 v.1 hy hz
    have c98 := sp_198 r.1 v.1 hy hz
    rw [e6] at c56
    rw [r.1] at c44
    have s1 : gm_95 l y z s = if f 2 / 2 ^ l % 2 = 1 then (if 0 ≤ y ∧ y < R ∧ 0 ≤ z ∧ z < C then ((gm_60 1 l ((y * (s.1 1 5)) + z) s).bind fun q25 => if ¬ (l : Int) = 2 then (if (-2147483648 ≤ q25.1 ∧ q25.1 ≤ 2147483647) then (if ¬ q25.1 = 8 then some ((97 + q25.1), q25.2) else some (46, q25.2)) else none) else some ((48 + q25.1), q25.2)) else some (-1, s)) else some (-1, s) := by
      unfold gm_95
      rw [if_pos hx', if_neg (by omega), if_neg (by omega), c56, Option.bind_some]
      by_cases b : f 2 / 2 ^ l % 2 = 1
      · rw [if_neg (fun q => (gbD s).mp q b), if_pos b]
        show ((gm_59 1 y z s).bind _) = _
        rw [c59, Option.bind_some]
        by_cases d : 0 ≤ y ∧ y < R ∧ 0 ≤ z ∧ z < C
        · rw [if_pos (fun q => (gbD s).mp q d), if_pos d]
        · rw [if_neg (fun q => q ((gbD s).mpr d)), if_neg d]
      · rw [if_pos ((gbD s).mpr b), if_neg b]
    have s2 : gm_218 l y z s = if f 2 / 2 ^ l % 2 = 1 then (if 0 ≤ y ∧ y < R ∧ 0 ≤ z ∧ z < C then (if 0 ≤ (((52 + (96 * (l : Int))) + (12 * y)) + z) ∧ (((52 + (96 * (l : Int))) + (12 * y)) + z) < 340 then (if ¬ (l : Int) = 2 then (if (-2147483648 ≤ (f ((((52 + (96 * (l : Int))) + (12 * y)) + z)).toNat) ∧ (f ((((52 + (96 * (l : Int))) + (12 * y)) + z)).toNat) ≤ 2147483647) then (if ¬ (f ((((52 + (96 * (l : Int))) + (12 * y)) + z)).toNat) = 8 then some ((97 + (f ((((52 + (96 * (l : Int))) + (12 * y)) + z)).toNat)), s) else some (46, s)) else none) else some ((48 + (f ((((52 + (96 * (l : Int))) + (12 * y)) + z)).toNat)), s)) else none) else some (-1, s)) else some (-1, s) := by
      unfold gm_218
      rw [if_pos hx', in_ s hx (by omega) (by omega), Option.bind_some, if_neg (fun q => (gbD s).mp q a), c44, Option.bind_some]
      by_cases b : f 2 / 2 ^ l % 2 = 1
      · rw [if_neg (fun q => (gbD s).mp q b), if_pos b]
        show ((gm_198 y z s).bind _) = _
        rw [c98, Option.bind_some]
        by_cases d : 0 ≤ y ∧ y < R ∧ 0 ≤ z ∧ z < C
        · rw [if_pos (fun q => (gbD s).mp q d), if_pos d]
          show (if 0 ≤ (((52 + (96 * (l : Int))) + (12 * y)) + z) ∧ (((52 + (96 * (l : Int))) + (12 * y)) + z) < 340 then (if ¬ (l : Int) = 2 then (if (-2147483648 ≤ (s.1 216 ((((52 + (96 * (l : Int))) + (12 * y)) + z)).toNat) ∧ (s.1 216 ((((52 + (96 * (l : Int))) + (12 * y)) + z)).toNat) ≤ 2147483647) then (if ¬ (s.1 216 ((((52 + (96 * (l : Int))) + (12 * y)) + z)).toNat) = 8 then some ((97 + (s.1 216 ((((52 + (96 * (l : Int))) + (12 * y)) + z)).toNat)), s) else some (46, s)) else none) else some ((48 + (s.1 216 ((((52 + (96 * (l : Int))) + (12 * y)) + z)).toNat)), s)) else none) = _
          rw [r.1]
        · rw [if_neg (fun q => q ((gbD s).mpr d)), if_neg d]
      · rw [if_pos ((gbD s).mpr b), if_neg b]
    by_cases b : f 2 / 2 ^ l % 2 = 1
    · by_cases d : 0 ≤ y ∧ y < R ∧ 0 ≤ z ∧ z < C
      · obtain ⟨y, rfl⟩ : ∃ y' : Nat, y = y' := ⟨y.toNat, by omega⟩
        obtain ⟨z, rfl⟩ : ∃ z' : Nat, z = z' := ⟨z.toNat, by omega⟩
        have hk : y * C + z < R * C := by
          have := Nat.mul_le_mul_right C (show y + 1 ≤ R by omega)
          rw [Nat.add_mul] at this
          omega
        have d1 : (y * C + z) / C = y := by
          rw [Nat.mul_comm, Nat.mul_add_div (by omega), Nat.div_eq_of_lt (by omega)]
          rfl
        have d2 : (y * C + z) % C = z := by
          rw [Nat.mul_comm, Nat.mul_add_mod, Nat.mod_eq_of_lt (by omega)]
        have e5 : s.1 1 5 = C := c.1.2.1.trans m1.2.1
        have ei : (y : Int) * (C : Int) + (z : Int) = ((y * C + z : Nat) : Int) := by
          rw [Int.natCast_add, Int.natCast_mul]
        have c60 := sp_60 (s := s) (a := 1) (by decide +kernel) l (y * C + z) (by omega) (by have := RC_96 m1.2.2.1 m1.2.2.2; omega)
        have e9 := c.1.2.2.2.2.2.2.2.2 l (by omega) b (y * C + z) hk
        have r9 := v.1.2.2.2.2.2.2.2.1 l (by omega) b (y * C + z) hk
        rw [d1, d2] at e9 r9
        rw [e9] at c60
        have i2 : (((52 + (96 * (l : Int))) + (12 * (y : Int))) + (z : Int)).toNat = 52 + 96 * l + 12 * y + z := by omega
        have rr : -2147483648 ≤ f (52 + 96 * l + 12 * y + z) ∧ f (52 + 96 * l + 12 * y + z) ≤ 2147483647 := by
          by_cases q : l = 2
          · rw [if_pos q] at r9; omega
          · rw [if_neg q] at r9; omega
        rw [if_pos b, if_pos d, e5, ei, c60, Option.bind_some] at s1
        rw [if_pos b, if_pos d, i2, if_pos (by omega)] at s2
        by_cases q : ¬ (l : Int) = 2
        · rw [if_pos q] at s1 s2
          have s1 : gm_95 l y z s = if (-2147483648 ≤ f (52 + 96 * l + 12 * y + z) ∧ f (52 + 96 * l + 12 * y + z) ≤ 2147483647) then (if ¬ f (52 + 96 * l + 12 * y + z) = 8 then some ((97 + f (52 + 96 * l + 12 * y + z)), s) else some (46, s)) else none := s1
          rw [if_pos rr] at s1 s2
          by_cases p : ¬ f (52 + 96 * l + 12 * y + z) = 8
          · rw [if_pos p] at s1 s2
            exact fin _ s1 s2
          · rw [if_neg p] at s1 s2
            exact fin _ s1 s2
        · rw [if_neg q] at s1 s2
          exact fin _ s1 s2
      · exact fin _ (s1.trans (by rw [if_pos b, if_neg d])) (s2.trans (by rw [if_pos b, if_neg d]))
    · exact fin _ (s1.trans (if_neg b)) (s2.trans (if_neg b))
  · refine fin (-1) ?_ ?_
    · unfold gm_95
      rw [if_pos hx']
      by_cases b : x < 0
      · rw [if_pos b]
      · rw [if_neg b, if_pos (by omega)]
    · unfold gm_218
      rw [if_pos hx', in_ s hx (by omega) (by omega), Option.bind_some, if_pos ((gbD s).mpr a)]
theorem inv_people {s : gx_S} (h : INV s) {x y : Int} (hx : i32 x) (hy : i32 y) : two s (gm_97 x y) (gm_179 x y) := by
  obtain ⟨f, R, C, n, pf, L, tb, c, r, v⟩ := id h
  have hx' := hx
  have hy' := hy
  unfold i32 at hx' hy'
  have c14 := sp_114 s hx
  have c148 : ∀ t : gx_S, gm_148 x t = _ := fun t => sp_148 t hx
  by_cases a : 0 ≤ x ∧ x < 3
  · obtain ⟨g, rfl⟩ : ∃ g : Nat, x = g := ⟨x.toNat, by omega⟩
    have hg : g < 3 := by omega
    by_cases b : 0 ≤ y ∧ y ≤ 10
    · obtain ⟨y, rfl⟩ : ∃ y' : Nat, y = y' := ⟨y.toNat, by omega⟩
      obtain ⟨D, u, u1, u2, u3, u4, u5⟩ := CV_20 v.1 hg c
      obtain ⟨l1, l2, l3⟩ := u4.2.2.2.1 u5
      have ev : fx_rf 70 (g : Int).toNat = 71 + 48 * g := by
        rw [show ((g : Int)).toNat = g by omega]
        rcases (show g = 0 ∨ g = 1 ∨ g = 2 by omega) with e | e | e
        · rw [e]; rfl
        · rw [e]; rfl
        · rw [e]; rfl
      have kc : KC s u := KG_KC (ga_of hg) u3
      have ru := RV_KC kc r
      have eu : u.1 216 = f := ru.1
      have Mu : MP (u.1 216) R C := by rw [eu]; exact v.1
      have s1 : gm_97 g y s = if (8 : Int) ≤ (y : Int) then (if ¬ (y : Int) = 8 then (if ¬ (y : Int) = 9 then ((gm_66 1 g u).bind fun q37 => some (q37.1, q37.2)) else some ((u.1 (71 + 48 * g) 7), u)) else some ((u.1 (71 + 48 * g) 6), u)) else (if 0 ≤ (y : Int) ∧ (y : Int) < 8 then some ((u.1 (71 + 48 * g + 1) (y : Int).toNat), u) else none) := by
        unfold gm_97
        rw [c14, Option.bind_some, if_neg (fun q => (gbD s).mp q a), if_pos hy', if_neg (by omega), if_pos b.2, if_pos a, Option.bind_some, ev, u1, Option.bind_some]
      have s2 : gm_179 g y u = if (y : Int) = 8 then ((gm_174 g u).bind fun q42 => some (q42.1, q42.2)) else (if (y : Int) = 9 then ((gm_176 g u).bind fun q40 => some (q40.1, q40.2)) else (if (y : Int) = 10 then ((gm_178 g u).bind fun q38 => some (q38.1, q38.2)) else ((gm_177 g u).bind fun q33 => if 0 ≤ (y : Int) ∧ (y : Int) < 8 then some ((q33.1 236 (y : Int).toNat), q33) else none))) := by
        unfold gm_179
        rw [c148 u, Option.bind_some, if_neg (fun q => (gbD s).mp q (by omega)), if_pos hy', in_ u hy (by omega) (by omega), Option.bind_some, if_pos (fun q => (gbD s).mp q b)]
      unfold two
      rw [s1]
      by_cases y8 : y < 8
      · rw [if_neg (by omega), if_pos (by omega), show ((y : Int)).toNat = y by omega, l1 y y8]
        rw [if_neg (by omega), if_neg (by omega), if_neg (by omega)] at s2
        obtain ⟨w, w1, w2, w3⟩ := sp_177 (g := g) Mu hg
        rw [w1, Option.bind_some, if_pos (by omega), show ((y : Int)).toNat = y by omega, w2 y y8, eu] at s2
        exact ⟨_, u, w, rfl, s2, q_inv kc u2 r v (KR_w w3)⟩
      · rw [if_pos (by omega)]
        by_cases e8 : y = 8
        · rw [if_neg (show ¬ ¬ (y : Int) = 8 by omega), l2]
          rw [if_pos (by omega), sp_174 Mu hg, Option.bind_some, eu] at s2
          exact ⟨_, u, u, rfl, s2, q_inv kc u2 r v (KRw_rf u)⟩
        · rw [if_pos (show ¬ (y : Int) = 8 by omega)]
          by_cases e9 : y = 9
          · rw [if_neg (show ¬ ¬ (y : Int) = 9 by omega), l3]
            rw [if_neg (by omega), if_pos (by omega), sp_176 Mu hg, Option.bind_some, eu] at s2
            exact ⟨_, u, u, rfl, s2, q_inv kc u2 r v (KRw_rf u)⟩
          · rw [if_pos (show ¬ (y : Int) = 9 by omega), sp_66g u2.1 hg, Option.bind_some]
            rw [if_neg (by omega), if_neg (by omega), if_pos (by omega), sp_178 hg, Option.bind_some, eu] at s2
            exact ⟨_, u, u, rfl, s2, q_inv kc u2 r v (KRw_rf u)⟩
    · refine ⟨-1, s, s, ?_, ?_, h⟩
      · unfold gm_97
        rw [c14, Option.bind_some, if_neg (fun q => (gbD s).mp q a), if_pos hy']
        by_cases d : y < 0
        · rw [if_pos d]
        · rw [if_neg d, if_neg (by omega)]
      · unfold gm_179
        rw [c148 s, Option.bind_some, if_neg (fun q => (gbD s).mp q (by omega)), if_pos hy', in_ s hy (by omega) (by omega), Option.bind_some, if_neg (fun q => q ((gbD s).mpr b))]
  · refine ⟨-1, s, s, ?_, ?_, h⟩
    · unfold gm_97
      rw [c14, Option.bind_some, if_pos ((gbD s).mpr a)]
    · unfold gm_179
      rw [c148 s, Option.bind_some, if_pos ((gbD s).mpr (by omega))]
end
section
/-! QUERIES: moved -/
def pxs (F : Nat → Int) (lo n : Nat) : Int := sg (fun y => if lo ≤ y then F y else 0) n
theorem pxs_0 (F : Nat → Int) (lo : Nat) : pxs F lo lo = 0 := by
  have e : pxs F lo lo = sg (fun _ => 0) lo := sg_eq fun y hy => if_neg (by omega)
  rw [e]
  have : ∀ n, sg (fun _ => (0 : Int)) n = 0 := fun n => by
    induction n with
    | zero => rfl
    | succ n ih => show sg (fun _ => (0 : Int)) n + 0 = 0; rw [ih]; rfl
  exact this lo
theorem pxs_s (F : Nat → Int) {lo n : Nat} (h : lo ≤ n) : pxs F lo (n + 1) = pxs F lo n + F n := by
  show sg (fun y => if lo ≤ y then F y else 0) n + (if lo ≤ n then F n else 0) = _
  rw [if_pos h]
  rfl
theorem pxs_1 (F : Nat → Int) (z : Nat) : pxs F z (z + 1) = F z := by
  rw [pxs_s F (Nat.le_refl z), pxs_0, Int.zero_add]
theorem pxs_a (F : Nat → Int) (n : Nat) : pxs F 0 n = sg F n := sg_eq fun y _ => if_pos (Nat.zero_le y)
theorem sl_99_124 {a lo hi x x6 : Nat} {s : gx_S} {k : Nat → Int → Int → Int → Int → Int → gx_S → Option (Int × gx_S)} {A : Int} (hx : x < 8) (hh : hi < 9) : ∀ (m j : Nat), hi + 1 < m + j → lo ≤ j → j ≤ hi + 1 → gm_99_124 k m a x6 lo hi (A + pxs (fun y => s.1 (a + 11) (9 * x + y)) lo j) x j s = k a x6 lo hi (A + pxs (fun y => s.1 (a + 11) (9 * x + y)) lo (hi + 1)) ((x + 1 : Nat) : Int) s := by
  intro m
  induction m with
  | zero => intro j h; omega
  | succ m ih =>
    intro j h h1 h2
    have cx : ((x : Int) + 1) = ((x + 1 : Nat) : Int) := rfl
    rw [gm_99_124, if_pos (by omega), if_pos (by omega)]
    by_cases q : j = hi + 1
    · rw [if_pos (by omega), q, cx]
    · have cj : ((j : Int) + 1) = ((j + 1 : Nat) : Int) := rfl
      have ix : (((x : Int) * 9) + (j : Int)).toNat = 9 * x + j := by omega
      rw [if_neg (by omega), if_pos (by omega), ix, cj, Int.add_assoc, show a + 3 + 8 = a + 11 from rfl]
      have e := pxs_s (fun y => s.1 (a + 11) (9 * x + y)) h1
      rw [← e]
      exact ih (j + 1) (by omega) (by omega) (by omega)
theorem sl_99_113 {a lo hi l2 h2 : Nat} {s : gx_S} (hl : lo ≤ hi + 1) (hh : hi < 9) (hx : h2 < 8) : ∀ (m x : Nat), h2 + 1 < m + x → l2 ≤ x → x ≤ h2 + 1 → gm_99_113 m a h2 lo hi (pxs (fun x => pxs (fun y => s.1 (a + 11) (9 * x + y)) lo (hi + 1)) l2 x) x s = some (pxs (fun x => pxs (fun y => s.1 (a + 11) (9 * x + y)) lo (hi + 1)) l2 (h2 + 1), s) := by
  intro m
  induction m with
  | zero => intro j h; omega
  | succ m ih =>
    intro x h h1 h3
    rw [gm_99_113, if_pos (by omega), if_pos (by omega)]
    by_cases q : x = h2 + 1
    · rw [if_pos (by omega), q]
    · rw [if_neg (by omega)]
      have i := sl_99_124 (a := a) (lo := lo) (hi := hi) (x := x) (x6 := h2) (s := s) (k := gm_99_113 m) (A := pxs (fun x => pxs (fun y => s.1 (a + 11) (9 * x + y)) lo (hi + 1)) l2 x) (by omega) hh 100000 lo (by omega) (Nat.le_refl lo) hl
      rw [pxs_0, Int.add_zero] at i
      rw [i]
      have e := pxs_s (fun x => pxs (fun y => s.1 (a + 11) (9 * x + y)) lo (hi + 1)) h1
      have e' : pxs (fun x => pxs (fun y => s.1 (a + 11) (9 * x + y)) lo (hi + 1)) l2 x + pxs (fun y => s.1 (a + 11) (9 * x + y)) lo (hi + 1) = pxs (fun x => pxs (fun y => s.1 (a + 11) (9 * x + y)) lo (hi + 1)) l2 (x + 1) := e.symm
      rw [e']
      exact ih (x + 1) (by omega) (by omega) (by omega)
/-- the sum of the asked part of a table -/
def MVs (G : Nat → Nat → Int) (o z : Int) : Int := if o = -1 then (if z = -1 then sg (fun x => sg (fun y => G x y) 9) 8 else sg (fun x => G x z.toNat) 8) else (if z = -1 then sg (fun y => G o.toNat y) 9 else G o.toNat z.toNat)
theorem sp_99t {a : Nat} {s : gx_S} {o z : Int} {G : Nat → Nat → Int} (ho : -1 ≤ o ∧ o < 8) (hz : -1 ≤ z ∧ z < 9) (hG : ∀ x y, x < 8 → y < 9 → s.1 (a + 11) (9 * x + y) = G x y) : (if ¬ o = -1 then gm_99_66 o z a o s else gm_99_66 o z a 0 s) = some (MVs G o z, s) := by
  have st : ∀ l2 h2 lo hi : Nat, lo ≤ hi + 1 → hi < 9 → h2 < 8 → l2 ≤ h2 + 1 → gm_99_104 a l2 h2 lo hi s = some (pxs (fun x => pxs (fun y => s.1 (a + 11) (9 * x + y)) lo (hi + 1)) l2 (h2 + 1), s) := fun l2 h2 lo hi q1 q2 q3 q4 => by
    have i := sl_99_113 (a := a) (lo := lo) (hi := hi) (l2 := l2) (h2 := h2) (s := s) q1 q2 q3 100000 l2 (by omega) (Nat.le_refl l2) q4
    rw [pxs_0] at i
    exact i
  have GG : ∀ l2 h2 lo hi : Nat, hi < 9 → h2 < 8 → pxs (fun x => pxs (fun y => s.1 (a + 11) (9 * x + y)) lo (hi + 1)) l2 (h2 + 1) = pxs (fun x => pxs (fun y => G x y) lo (hi + 1)) l2 (h2 + 1) := fun l2 h2 lo hi q1 q2 => sg_eq fun x hx => by
    have e : pxs (fun y => s.1 (a + 11) (9 * x + y)) lo (hi + 1) = pxs (fun y => G x y) lo (hi + 1) := sg_eq fun y hy => by
      show (if lo ≤ y then s.1 (a + 11) (9 * x + y) else 0) = (if lo ≤ y then G x y else 0)
      rw [hG x y (by omega) (by omega)]
    show (if l2 ≤ x then pxs (fun y => s.1 (a + 11) (9 * x + y)) lo (hi + 1) else 0) = _
    rw [e]
  unfold gm_99_66 MVs
  by_cases p : o = -1
  · rw [if_neg (fun t => t p), if_pos p, p, if_pos (show (-2147483648 : Int) ≤ -1 ∧ (-1 : Int) ≤ 2147483647 by decide), if_neg (show ¬ ¬ (-1 : Int) = -1 from fun t => t rfl)]
    unfold gm_99_79
    rw [if_pos (by omega)]
    by_cases q : z = -1
    · rw [if_neg (fun t => t q), if_pos q, q]
      unfold gm_99_91
      rw [if_pos (show (-2147483648 : Int) ≤ -1 ∧ (-1 : Int) ≤ 2147483647 by decide), if_neg (show ¬ ¬ (-1 : Int) = -1 from fun t => t rfl)]
      have := st 0 7 0 8 (by omega) (by omega) (by omega) (by omega)
      rw [GG 0 7 0 8 (by omega) (by omega), pxs_a] at this
      have e : sg (fun x => pxs (fun y => G x y) 0 9) 8 = sg (fun x => sg (fun y => G x y) 9) 8 := sg_eq fun x _ => pxs_a _ _
      rw [← e]
      exact this
    · obtain ⟨z, rfl⟩ : ∃ z' : Nat, z = z' := ⟨z.toNat, by omega⟩
      rw [if_pos q, if_neg q]
      unfold gm_99_91
      rw [if_pos (by omega), if_pos q]
      have := st 0 7 z z (by omega) (by omega) (by omega) (by omega)
      rw [GG 0 7 z z (by omega) (by omega), pxs_a] at this
      have e : sg (fun x => pxs (fun y => G x y) z (z + 1)) 8 = sg (fun x => G x (z : Int).toNat) 8 := sg_eq fun x _ => pxs_1 _ _
      rw [← e]
      exact this
  · obtain ⟨o, rfl⟩ : ∃ o' : Nat, o = o' := ⟨o.toNat, by omega⟩
    rw [if_pos p, if_neg p, if_pos (by omega), if_pos p]
    unfold gm_99_79
    rw [if_pos (by omega)]
    by_cases q : z = -1
    · rw [if_neg (fun t => t q), if_pos q, q]
      unfold gm_99_91
      rw [if_pos (show (-2147483648 : Int) ≤ -1 ∧ (-1 : Int) ≤ 2147483647 by decide), if_neg (show ¬ ¬ (-1 : Int) = -1 from fun t => t rfl)]
      have := st o o 0 8 (by omega) (by omega) (by omega) (by omega)
      rw [GG o o 0 8 (by omega) (by omega), pxs_1, pxs_a] at this
      exact this
    · obtain ⟨z, rfl⟩ : ∃ z' : Nat, z = z' := ⟨z.toNat, by omega⟩
      rw [if_pos q, if_neg q]
      unfold gm_99_91
      rw [if_pos (by omega), if_pos q]
      have := st o o z z (by omega) (by omega) (by omega) (by omega)
      rw [GG o o z z (by omega) (by omega), pxs_1, pxs_1] at this
      exact this
theorem vg_ (g : Nat) (hg : g < 3) : fx_rf 70 (g : Int).toNat = 71 + 48 * g := by
  rw [show ((g : Int)).toNat = g by omega]
  rcases (show g = 0 ∨ g = 1 ∨ g = 2 by omega) with e | e | e
  · rw [e]; rfl
  · rw [e]; rfl
  · rw [e]; rfl
theorem inv_moved {s : gx_S} (h : INV s) {x o z : Int} (hx : i32 x) (ho : i32 o) (hz : i32 z) : two s (gm_99 x o z) (gm_185 x o z) := by
  obtain ⟨f, R, C, n, pf, L, tb, c, r, v⟩ := id h
  have hx' := hx
  have ho' := ho
  have hz' := hz
  unfold i32 at hx' ho' hz'
  have e6 : s.1 1 6 = f 2 := c.1.2.2.1
  have c14 := sp_114 s hx
  have c148 : ∀ t : gx_S, gm_148 x t = _ := fun t => sp_148 t hx
  have c57 := sp_57 (s := s) (a := 1) (by decide +kernel) (by rw [e6]; exact v.1.2.1)
  rw [e6] at c57
  have c150 : ∀ t : gx_S, t.1 216 = f → gm_150 t = some (decide (f 2 = 7), t) := fun t et => by
    have := sp_150 (s := t) (by rw [et]; exact v.1.2.1)
    rw [et] at this
    exact this
  by_cases ok : (0 ≤ x ∧ x < 3) ∧ f 2 = 7 ∧ (-1 ≤ o ∧ o ≤ 7) ∧ (-1 ≤ z ∧ z ≤ 8)
  · obtain ⟨a, h7, b, d⟩ := ok
    obtain ⟨g, rfl⟩ : ∃ g : Nat, x = g := ⟨x.toNat, by omega⟩
    have hg : g < 3 := by omega
    obtain ⟨D, u, u1, u2, u3, u4, u5, u6⟩ := CV_ready (w := 2) (by omega) v.1 h7 hg c
    have u1 : gm_19 (71 + 48 * g) 2 s = some u := u1
    have tm := (u4.2.2.2.2.1 u5).2.1
    have kc : KC s u := KG_KC (ga_of hg) u3
    have ru := RV_KC kc r
    have eu : u.1 216 = f := ru.1
    have t1 := sp_99t (a := 71 + 48 * g) (s := u) (o := o) (z := z) (G := GV f R C g) (by omega) (by omega) fun x y hx hy => ((tm x hx).2.2 y hy).2.2.2
    have s1 : gm_99 g o z s = some (MVs (GV f R C g) o z, u) := by
      unfold gm_99
      rw [c14, Option.bind_some, if_neg (fun q => (gbD s).mp q a)]
      show ((gm_57 1 s).bind _) = _
      rw [c57, Option.bind_some, if_neg (fun q => (gbD s).mp q h7), if_pos ho', if_neg (by omega), if_neg (by omega), if_pos hz', if_neg (by omega), if_pos d.2, if_pos a, Option.bind_some, vg_ g hg]
      show ((gm_19 (71 + 48 * g) 2 s).bind _) = _
      rw [u1, Option.bind_some]
      exact t1
    obtain ⟨p, w, p1, p2, p3, p4, p5, p6, p7⟩ := sp_181f (s := u) (R := R) (C := C) (g := g) (by rw [eu]; exact v.1) (by rw [eu]; exact h7) hg ru.2.2.2.2
    have wg : ∀ x y, x < 8 → y < 9 → w.2 224 (9 * x + y) = GV f R C g x y := fun x y hx hy => by
      have := ((p7 x hx).2.2 y hy).2
      rw [eu] at this
      exact this
    have s2 : gm_185 g o z u = some (MVs (GV f R C g) o z, w) := by
      unfold gm_185
      rw [c150 u eu, Option.bind_some, if_neg (fun q => (gbD s).mp q h7)]
      show ((gm_148 g u).bind _) = _
      rw [c148 u, Option.bind_some, if_neg (fun q => (gbD s).mp q (by omega)), if_pos ho', in_ u ho (by omega) (by omega), Option.bind_some, if_neg (fun q => (gbD s).mp q b), if_pos hz', in_ u hz (by omega) (by omega), Option.bind_some, if_pos (fun q => (gbD s).mp q d)]
      show ((gm_181 g u).bind _) = _
      rw [p1, Option.bind_some, p2, Option.bind_some]
      unfold MVs
      by_cases q : o = -1
      · rw [if_neg (fun t => t q), if_pos q]
        by_cases q2 : z = -1
        · rw [if_neg (fun t => t q2), if_pos q2, sp_184 (R := 8) (m := 9) p5 p6 (by omega) (by omega), Option.bind_some]
          have e : sg (fun x => sg (fun y => w.2 224 (9 * x + y)) 9) 8 = sg (fun x => sg (fun y => GV f R C g x y) 9) 8 := sg_eq fun x hx => sg_eq fun y hy => wg x y hx hy
          show some (sg (fun x => sg (fun y => w.2 224 (9 * x + y)) 9) 8, w) = _
          rw [e]
        · obtain ⟨z, rfl⟩ : ∃ z' : Nat, z = z' := ⟨z.toNat, by omega⟩
          rw [if_pos q2, if_neg q2, sp_183 (R := 8) p5 (by omega) (by omega), Option.bind_some]
          have e : sg (fun x => w.2 224 (9 * x + z)) 8 = sg (fun x => GV f R C g x z) 8 := sg_eq fun x hx => wg x z hx (by omega)
          show some (sg (fun x => w.2 224 (9 * x + z)) 8, w) = _
          rw [e]
          rfl
      · obtain ⟨o, rfl⟩ : ∃ o' : Nat, o = o' := ⟨o.toNat, by omega⟩
        rw [if_pos q, if_neg q]
        by_cases q2 : z = -1
        · rw [if_neg (fun t => t q2), if_pos q2, sp_182 (m := 9) p6 (by omega) (by omega), Option.bind_some]
          have e : sg (fun y => w.2 224 (9 * o + y)) 9 = sg (fun y => GV f R C g o y) 9 := sg_eq fun y hy => wg o y (by omega) hy
          show some (sg (fun y => w.2 224 (9 * o + y)) 9, w) = _
          rw [e]
          rfl
        · obtain ⟨z, rfl⟩ : ∃ z' : Nat, z = z' := ⟨z.toNat, by omega⟩
          rw [if_pos q2, if_neg q2]
          unfold gm_160
          rw [Option.bind_some]
          show (if 0 ≤ ((9 * (o : Int)) + (z : Int)) ∧ ((9 * (o : Int)) + (z : Int)) < 72 then some ((w.2 224 ((9 * (o : Int)) + (z : Int)).toNat), w) else none) = _
          rw [if_pos (by omega), show ((9 * (o : Int)) + (z : Int)).toNat = 9 * o + z by omega, wg o z (by omega) (by omega)]
          rfl
    exact ⟨_, u, w, s1, s2, q_inv kc u2 r v (KR_w p4)⟩
  · refine ⟨-1, s, s, ?_, ?_, h⟩
    · unfold gm_99
      rw [c14, Option.bind_some]
      by_cases a : 0 ≤ x ∧ x < 3
      · rw [if_neg (fun q => (gbD s).mp q a)]
        show ((gm_57 1 s).bind _) = _
        rw [c57, Option.bind_some]
        by_cases b : f 2 = 7
        · rw [if_neg (fun q => (gbD s).mp q b), if_pos ho']
          by_cases d : o < -1
          · rw [if_pos d]
          · rw [if_neg d]
            by_cases e : 8 ≤ o
            · rw [if_pos e]
            · rw [if_neg e, if_pos hz']
              by_cases t : z < -1
              · rw [if_pos t]
              · rw [if_neg t, if_neg (fun q => ok ⟨a, b, by omega, by omega⟩)]
        · rw [if_pos ((gbD s).mpr b)]
      · rw [if_pos ((gbD s).mpr a)]
    · unfold gm_185
      rw [c150 s r.1, Option.bind_some]
      by_cases b : f 2 = 7
      · rw [if_neg (fun q => (gbD s).mp q b)]
        show ((gm_148 x s).bind _) = _
        rw [c148 s, Option.bind_some]
        by_cases a : 0 ≤ x ∧ x ≤ 2
        · rw [if_neg (fun q => (gbD s).mp q a), if_pos ho', in_ s ho (by omega) (by omega), Option.bind_some]
          by_cases d : -1 ≤ o ∧ o ≤ 7
          · rw [if_neg (fun q => (gbD s).mp q d), if_pos hz', in_ s hz (by omega) (by omega), Option.bind_some, if_neg (fun q => q ((gbD s).mpr fun t => ok ⟨by omega, b, d, t⟩))]
          · rw [if_pos ((gbD s).mpr d)]
        · rw [if_pos ((gbD s).mpr a)]
      · rw [if_pos ((gbD s).mpr b)]
end
section
/-! QUERIES: share -/
/-- a fraction in lowest terms -/
theorem sp_127 (s : gx_S) {a b : Nat} {w : Int} (ha : a ≤ 9000000000000000000) (hb : b < 1099511627776) (b0 : 0 < b) (hw : i32 w) : gm_127 a b w s = some ((if ¬ w = 0 then (b : Int) else (a : Int)) / ((Nat.gcd a b : Nat) : Int), s) := by
  unfold i32 at hw
  have g0 : 0 < Nat.gcd a b := Nat.gcd_pos_of_pos_right a b0
  have g1 : Nat.gcd a b ≤ b := Nat.gcd_le_right a b0
  unfold gm_127
  rw [sp_128 s ha hb, Option.bind_some]
  show (if (-9223372036854775808 ≤ ((Nat.gcd a b : Nat) : Int) ∧ ((Nat.gcd a b : Nat) : Int) ≤ 9223372036854775807) then (if ¬ ((Nat.gcd a b : Nat) : Int) = 0 then (if (-2147483648 ≤ w ∧ w ≤ 2147483647) then (if ¬ w = 0 then gm_127_28 ((Nat.gcd a b : Nat) : Int) b s else gm_127_28 ((Nat.gcd a b : Nat) : Int) a s) else none) else some ((-1), s)) else none) = _
  rw [if_pos (by omega), if_pos (show ¬ ((Nat.gcd a b : Nat) : Int) = 0 by omega), if_pos hw]
  unfold gm_127_28
  by_cases z : ¬ w = 0
  · rw [if_pos z, if_pos z, if_pos (by omega)]
  · rw [if_neg z, if_neg z, if_pos (by omega)]
theorem sp_194 (s : gx_S) {a b : Nat} {w : Int} (ha : a ≤ 9000000000000000000) (hb : b < 1099511627776) (b0 : 0 < b) (hw : i32 w) : gm_194 a b w s = some ((if ¬ w = 0 then (b : Int) else (a : Int)) / ((Nat.gcd a b : Nat) : Int), s) := by
  unfold i32 at hw
  have g0 : 0 < Nat.gcd a b := Nat.gcd_pos_of_pos_right a b0
  have g1 : Nat.gcd a b ≤ b := Nat.gcd_le_right a b0
  unfold gm_194
  rw [sp_164 s ha hb, Option.bind_some, if_pos hw]
  by_cases z : ¬ w = 0
  · rw [if_pos z, if_pos z, if_pos (by omega)]
  · rw [if_neg z, if_neg z, if_pos (by omega)]
/-- what a zone's shares are of -/
theorem tot_0 {f : Nat → Int} {R C g x : Nat} (M : MP f R C) (h7 : f 2 = 7) (hg : g < 3) : (SO f R C g x (-1) (decide (SO f R C g x (-1) false = 0)) = 0 ↔ ¬ 0 < NC f R C 0 x) := by
  have e1 : SO f R C g x (-1) true = NC f R C 0 x := by
    unfold SO NC
    rw [if_pos (by rw [h7]; rfl)]
    refine sg_eq fun k hk => ?_
    unfold bi
    by_cases q : f (52 + 96 * 0 + 12 * (k / C) + k % C) = x
    · rw [if_pos ⟨.inr q, .inl rfl⟩, if_pos rfl, if_pos q]
    · rw [if_neg (fun t => by
        have := t.1
        omega), if_neg q]
  have r1 := SO_r M h7 hg x (-1) true
  have r0 := SO_r M h7 hg x (-1) false
  have le : SO f R C g x (-1) false ≤ 9 * NC f R C 0 x := by
    unfold SO NC
    rw [if_pos (by rw [h7]; rfl), ← sg_mul]
    refine sg_le fun k hk => ?_
    have w := wt_r M h7 hg hk false
    unfold bi
    by_cases q : f (52 + 96 * 0 + 12 * (k / C) + k % C) = x
    · rw [if_pos ⟨.inr q, .inl rfl⟩, if_pos q]
      omega
    · rw [if_neg (fun t => by
        have := t.1
        omega), if_neg q]
      omega
  by_cases z : SO f R C g x (-1) false = 0
  · rw [decide_eq_true z, e1]
    omega
  · rw [decide_eq_false z]
    omega
theorem sp_118 {s : gx_S} {f : Nat → Int} {R C : Nat} {x y : Int} (m : MR s 1 f R C) (M : MP f R C) (hx : i32 x) (hy : i32 y) : gm_118 x y s = some (decide ((0 ≤ x ∧ x < 3) ∧ (0 ≤ y ∧ y ≤ 8) ∧ f 2 = 7), s) := by
  have hy' := hy
  unfold i32 at hy'
  have e6 : s.1 1 6 = f 2 := m.2.2.1
  have c57 := sp_57 (s := s) (a := 1) (by decide +kernel) (by rw [e6]; exact M.2.1)
  rw [e6] at c57
  unfold gm_118
  rw [sp_114 s hx, Option.bind_some]
  by_cases a : 0 ≤ x ∧ x < 3
  · rw [if_neg (fun q => (gbD s).mp q a), if_pos hy']
    by_cases b : y < 0
    · rw [if_pos b, decide_eq_false (show ¬ ((0 ≤ x ∧ x < 3) ∧ (0 ≤ y ∧ y ≤ 8) ∧ f 2 = 7) by omega)]
    · rw [if_neg b]
      by_cases d : 8 < y
      · rw [if_pos d, decide_eq_false (show ¬ ((0 ≤ x ∧ x < 3) ∧ (0 ≤ y ∧ y ≤ 8) ∧ f 2 = 7) by omega)]
      · rw [if_neg d]
        show ((gm_57 1 s).bind _) = _
        rw [c57, Option.bind_some]
        by_cases e : f 2 = 7
        · rw [if_neg (fun q => (gbD s).mp q e), decide_eq_true (show (0 ≤ x ∧ x < 3) ∧ (0 ≤ y ∧ y ≤ 8) ∧ f 2 = 7 by omega)]
        · rw [if_pos ((gbD s).mpr e), decide_eq_false (show ¬ ((0 ≤ x ∧ x < 3) ∧ (0 ≤ y ∧ y ≤ 8) ∧ f 2 = 7) by omega)]
  · rw [if_pos ((gbD s).mpr a), decide_eq_false (show ¬ ((0 ≤ x ∧ x < 3) ∧ (0 ≤ y ∧ y ≤ 8) ∧ f 2 = 7) by omega)]
end
section
/-! QUERIES: share -/
theorem inv_share {s : gx_S} (h : INV s) {x o z t : Int} (hx : i32 x) (ho : i32 o) (hz : i32 z) (ht : i32 t) : two s (gm_98 x o z t) (gm_195 x o z t) := by
  obtain ⟨f, R, C, n, pf, L, tb, c, r, v⟩ := id h
  have hx' := hx
  have ho' := ho
  have hz' := hz
  have ht' := ht
  unfold i32 at hx' ho' hz' ht'
  have c118 := sp_118 c.1 v.1 hx hz
  have c148 : ∀ t : gx_S, gm_148 x t = _ := fun t => sp_148 t hx
  have c150 : ∀ t : gx_S, t.1 216 = f → gm_150 t = some (decide (f 2 = 7), t) := fun t et => by
    have := sp_150 (s := t) (by rw [et]; exact v.1.2.1)
    rw [et] at this
    exact this
  have c153 : ∀ t : gx_S, t.1 216 = f → gm_153 0 o t = some (decide (0 < NC f R C 0 o), t) := fun t et => by
    have := sp_153g (s := t) (R := R) (C := C) (by rw [et]; exact v.1) 0 o (by omega) ho'
    rw [et] at this
    exact this
  -- the class ahead of its tables
  have s1 : gm_98 x o z t s = if ((0 ≤ x ∧ x < 3) ∧ (0 ≤ z ∧ z ≤ 8) ∧ f 2 = 7) ∧ (0 ≤ o ∧ o < 8) ∧ (0 ≤ t ∧ t ≤ 1) then (if 0 ≤ x ∧ x < 3 then ((some (fx_rf 70 (x).toNat)).bind fun v36 => (gm_19 v36 2 s).bind fun q41 => if 0 ≤ o ∧ o < 8 then (if (-2147483648 ≤ (q41.1 ((v36 + 3) + 2) (o).toNat) ∧ (q41.1 ((v36 + 3) + 2) (o).toNat) ≤ 2147483647) then (if ¬ (q41.1 ((v36 + 3) + 2) (o).toNat) = 0 then (if 0 ≤ ((o * 9) + z) ∧ ((o * 9) + z) < 72 then (if (-2147483648 ≤ (q41.1 ((v36 + 3) + 4) (((o * 9) + z)).toNat) ∧ (q41.1 ((v36 + 3) + 4) (((o * 9) + z)).toNat) ≤ 2147483647) then ((gm_127 (q41.1 ((v36 + 3) + 4) (((o * 9) + z)).toNat) (q41.1 ((v36 + 3) + 2) (o).toNat) t q41).bind fun q52 => some (q52.1, q52.2)) else none) else none) else some ((-1), q41)) else none) else none) else none) else some (-1, s) := by
    unfold gm_98
    rw [c118, Option.bind_some]
    by_cases a : (0 ≤ x ∧ x < 3) ∧ (0 ≤ z ∧ z ≤ 8) ∧ f 2 = 7
    · rw [if_neg (fun q => (gbD s).mp q a)]
      show ((gm_115 o s).bind _) = _
      rw [sp_115 s ho, Option.bind_some]
      by_cases b : 0 ≤ o ∧ o < 8
      · rw [if_neg (fun q => (gbD s).mp q b), if_pos ht']
        by_cases d : t < 0
        · rw [if_pos d, if_neg (show ¬ (((0 ≤ x ∧ x < 3) ∧ (0 ≤ z ∧ z ≤ 8) ∧ f 2 = 7) ∧ (0 ≤ o ∧ o < 8) ∧ (0 ≤ t ∧ t ≤ 1)) by omega)]
        · rw [if_neg d]
          by_cases e : t ≤ 1
          · rw [if_pos e, if_pos (show ((0 ≤ x ∧ x < 3) ∧ (0 ≤ z ∧ z ≤ 8) ∧ f 2 = 7) ∧ (0 ≤ o ∧ o < 8) ∧ (0 ≤ t ∧ t ≤ 1) by omega)]
          · rw [if_neg e, if_neg (show ¬ (((0 ≤ x ∧ x < 3) ∧ (0 ≤ z ∧ z ≤ 8) ∧ f 2 = 7) ∧ (0 ≤ o ∧ o < 8) ∧ (0 ≤ t ∧ t ≤ 1)) by omega)]
      · rw [if_pos ((gbD s).mpr b), if_neg (show ¬ (((0 ≤ x ∧ x < 3) ∧ (0 ≤ z ∧ z ≤ 8) ∧ f 2 = 7) ∧ (0 ≤ o ∧ o < 8) ∧ (0 ≤ t ∧ t ≤ 1)) by omega)]
    · rw [if_pos ((gbD s).mpr a), if_neg (fun q => a q.1)]
  have s2 : ∀ y : gx_S, y.1 216 = f → gm_195 x o z t y = if (((0 ≤ x ∧ x < 3) ∧ (0 ≤ z ∧ z ≤ 8) ∧ f 2 = 7) ∧ (0 ≤ o ∧ o < 8) ∧ (0 ≤ t ∧ t ≤ 1)) ∧ 0 < NC f R C 0 o then ((gm_180 x o y).bind fun q54 => (gm_157 x o z (gb q54.1) q54.2).bind fun q56 => if (-2147483648 ≤ q56.1 ∧ q56.1 ≤ 2147483647) then ((gm_157 x o (-1) (gb q54.1) q56.2).bind fun q59 => if (-2147483648 ≤ q59.1 ∧ q59.1 ≤ 2147483647) then ((gm_194 q56.1 q59.1 t q59.2).bind fun q62 => some (q62.1, q62.2)) else none) else none) else some (-1, y) := fun y ey => by
    unfold gm_195
    rw [c150 y ey, Option.bind_some]
    by_cases h7 : f 2 = 7
    · rw [if_neg (fun q => (gbD s).mp q h7)]
      show ((gm_148 x y).bind _) = _
      rw [c148 y, Option.bind_some]
      by_cases a : 0 ≤ x ∧ x ≤ 2
      · rw [if_neg (fun q => (gbD s).mp q a), if_pos ho', in_ y ho (by omega) (by omega), Option.bind_some]
        by_cases b : 0 ≤ o ∧ o ≤ 7
        · rw [if_neg (fun q => (gbD s).mp q b)]
          show ((gm_153 0 o y).bind _) = _
          rw [c153 y ey, Option.bind_some]
          by_cases d : 0 < NC f R C 0 o
          · rw [if_neg (fun q => (gbD s).mp q d), if_pos hz', in_ y hz (by omega) (by omega), Option.bind_some]
            by_cases e : 0 ≤ z ∧ z ≤ 8
            · rw [if_neg (fun q => (gbD s).mp q e), if_pos ht', in_ y ht (by omega) (by omega), Option.bind_some]
              by_cases k : 0 ≤ t ∧ t ≤ 1
              · rw [if_pos (fun q => (gbD s).mp q k), if_pos ⟨⟨⟨by omega, e, h7⟩, by omega, k⟩, d⟩]
              · rw [if_neg (fun q => q ((gbD s).mpr k)), if_neg (fun q => k q.1.2.2)]
            · rw [if_pos ((gbD s).mpr e), if_neg (fun q => e q.1.1.2.1)]
          · rw [if_pos ((gbD s).mpr d), if_neg (fun q => d q.2)]
        · rw [if_pos ((gbD s).mpr b), if_neg (fun q => b (by have := q.1.2.1; omega))]
      · rw [if_pos ((gbD s).mpr a), if_neg (fun q => a (by have := q.1.1.1; omega))]
    · rw [if_pos ((gbD s).mpr h7), if_neg (fun q => h7 q.1.1.2.2)]
  by_cases ok : ((0 ≤ x ∧ x < 3) ∧ (0 ≤ z ∧ z ≤ 8) ∧ f 2 = 7) ∧ (0 ≤ o ∧ o < 8) ∧ (0 ≤ t ∧ t ≤ 1)
  · rw [if_pos ok] at s1
    obtain ⟨⟨a, hz8, h7⟩, ho8, ht1⟩ := id ok
    obtain ⟨g, rfl⟩ : ∃ g : Nat, x = g := ⟨x.toNat, by omega⟩
    obtain ⟨o, rfl⟩ : ∃ o' : Nat, o = o' := ⟨o.toNat, by omega⟩
    obtain ⟨z, rfl⟩ : ∃ z' : Nat, z = z' := ⟨z.toNat, by omega⟩
    have hg : g < 3 := by omega
    obtain ⟨D, u, u1, u2, u3, u4, u5, u6⟩ := CV_ready (w := 2) (by omega) v.1 h7 hg c
    have u1 : gm_19 (71 + 48 * g) 2 s = some u := u1
    have tm := (u4.2.2.2.2.1 u5).2.1 o (by omega)
    have kc : KC s u := KG_KC (ga_of hg) u3
    have ru := RV_KC kc r
    have eu : u.1 216 = f := ru.1
    have e2 : u.1 (71 + 48 * g + 3 + 2) o = SO f R C g o (-1) (decide (SO f R C g o (-1) false = 0)) := by
      rw [tm.2.1]
      exact SO_row v.1 h7 o _
    have e4 : u.1 (71 + 48 * g + 3 + 4) (9 * o + z) = SO f R C g o z (decide (SO f R C g o (-1) false = 0)) := (tm.2.2 z (by omega)).1
    have r2 := SO_r v.1 h7 hg o (-1) (decide (SO f R C g o (-1) false = 0))
    have r4 := SO_r v.1 h7 hg o z (decide (SO f R C g o (-1) false = 0))
    obtain ⟨b, hb⟩ : ∃ b : Nat, SO f R C g o (-1) (decide (SO f R C g o (-1) false = 0)) = b := ⟨_, (Int.toNat_of_nonneg r2.1).symm⟩
    obtain ⟨p, hp⟩ : ∃ p : Nat, SO f R C g o z (decide (SO f R C g o (-1) false = 0)) = p := ⟨_, (Int.toNat_of_nonneg r4.1).symm⟩
    have t0 := tot_0 (x := o) v.1 h7 hg
    rw [hb] at r2 t0 e2
    rw [hp] at r4 e4
    rw [if_pos a, Option.bind_some, vg_ g hg, u1, Option.bind_some, if_pos ho8, show ((o : Int)).toNat = o by omega, e2, if_pos (by omega), show ((o : Int) * 9 + (z : Int)).toNat = 9 * o + z by omega, e4] at s1
    have s2 := s2 u eu
    by_cases d : 0 < NC f R C 0 o
    · have b0 : 0 < b := by omega
      rw [if_pos (show ¬ (b : Int) = 0 by omega), if_pos (by omega), if_pos (by omega), sp_127 u (by omega) (by omega) b0 ht, Option.bind_some] at s1
      have Mu : MP (u.1 216) R C := by rw [eu]; exact v.1
      have hu : u.1 216 2 = 7 := by rw [eu]; exact h7
      rw [if_pos ⟨ok, d⟩, sp_180 Mu hu hg (show o < 9 by omega), Option.bind_some] at s2
      have s2 : gm_195 g o z t u = ((gm_157 g o z (gb (decide (SO (u.1 216) R C g o (-1) false = 0))) u).bind fun q56 => if (-2147483648 ≤ q56.1 ∧ q56.1 ≤ 2147483647) then ((gm_157 g o (-1) (gb (decide (SO (u.1 216) R C g o (-1) false = 0))) q56.2).bind fun q59 => if (-2147483648 ≤ q59.1 ∧ q59.1 ≤ 2147483647) then ((gm_194 q56.1 q59.1 t q59.2).bind fun q62 => some (q62.1, q62.2)) else none) else none) := s2
      rw [sp_157g Mu hu o z _ hg (by omega) (by omega), Option.bind_some, eu, hp] at s2
      have s2 : gm_195 g o z t u = (if (-2147483648 ≤ (p : Int) ∧ (p : Int) ≤ 2147483647) then ((gm_157 g o (-1) (gb (decide (SO f R C g o (-1) false = 0))) u).bind fun q59 => if (-2147483648 ≤ q59.1 ∧ q59.1 ≤ 2147483647) then ((gm_194 p q59.1 t q59.2).bind fun q62 => some (q62.1, q62.2)) else none) else none) := s2
      have c57 := sp_157g Mu hu (o : Int) (-1) (decide (SO f R C g o (-1) false = 0)) hg (by omega) (by omega)
      rw [eu, hb] at c57
      rw [if_pos (by omega), c57, Option.bind_some] at s2
      have s2 : gm_195 g o z t u = (if (-2147483648 ≤ (b : Int) ∧ (b : Int) ≤ 2147483647) then ((gm_194 p b t u).bind fun q62 => some (q62.1, q62.2)) else none) := s2
      rw [if_pos (by omega), sp_194 u (by omega) (by omega) b0 ht, Option.bind_some] at s2
      exact ⟨_, u, u, s1, s2, q_inv kc u2 r v (KRw_rf u)⟩
    · have b0 : b = 0 := by omega
      rw [if_neg (show ¬ ¬ (b : Int) = 0 by omega)] at s1
      rw [if_neg (fun q => d q.2)] at s2
      exact ⟨-1, u, u, s1, s2, q_inv kc u2 r v (KRw_rf u)⟩
  · rw [if_neg ok] at s1
    exact ⟨-1, s, s, s1, (s2 s r.1).trans (if_neg fun q => ok q.1), h⟩
end
section
/-! THE REFERENCE: what flows back -/
theorem sl_191_83 {f : Nat → Int} {R C g x : Nat} (k : Int → Int → gx_S → Option gx_S) (M : MP f R C) (h7 : f 2 = 7) (hg : g < 3) (hx : x < 8) (b : Bool) : ∀ (n y : Nat) (s : gx_S), 9 < n + y → y ≤ 9 → s.1 216 = f → ∃ u : gx_S, gm_191_83 k n g x (gb b) y s = k g ((x + 1 : Nat) : Int) u ∧ u.2 = s.2 ∧ (∀ k i, k ≠ 222 → u.1 k i = s.1 k i) ∧ (∀ y', y ≤ y' → y' < 9 → u.1 222 (9 * x + y') = SO f R C g y' x b) ∧ ∀ i, ¬ (9 * x + y ≤ i ∧ i < 9 * x + 9) → u.1 222 i = s.1 222 i := by
  intro n
  induction n with
  | zero => intro y s h; omega
  | succ n ih =>
    intro y s h hy ef
    rw [gm_191_83, if_pos (by omega)]
    by_cases q : y = 9
    · rw [if_pos (by omega)]
      exact ⟨s, rfl, rfl, fun _ _ _ => rfl, fun y' h1 h2 => by omega, fun _ _ => rfl⟩
    · have ce : ((y : Int) + 1) = ((y + 1 : Nat) : Int) := rfl
      have i1 : ((9 * (x : Int) + (y : Int))).toNat = 9 * x + y := by omega
      have c57 := sp_157g (s := s) (R := R) (C := C) (by rw [ef]; exact M) (by rw [ef]; exact h7) (y : Int) (x : Int) b hg (by omega) (by omega)
      rw [ef] at c57
      rw [if_neg (by omega), sp_160, Option.bind_some]
      show ∃ u : gx_S, ((gm_157 g y x (gb b) s).bind _) = k g ((x + 1 : Nat) : Int) u ∧ _
      rw [c57, Option.bind_some, if_pos (by omega), i1, ce]
      obtain ⟨u, u1, u2, u3, u4, u5⟩ := ih (y + 1) (gw1 s 222 (9 * x + y) (SO f R C g y x b)) (by omega) (by omega) (by
        funext i
        rw [gw1_1, if_neg (by omega), ef])
      refine ⟨u, u1, u2, fun k i h1 => by rw [u3 k i h1, gw1_1, if_neg (fun x => h1 x.1)], fun y' h1 h2 => ?_, fun i h1 => ?_⟩
      · by_cases e : y' = y
        · rw [e, u5 _ (by omega), gw1_1, if_pos ⟨rfl, rfl⟩]
        · exact u4 y' (by omega) h2
      · rw [u5 i (by omega), gw1_1, if_neg (by omega)]
theorem sl_191_44 {f P : Nat → Int} {R C g : Nat} (M : MP f R C) (h7 : f 2 = 7) (hg : g < 3) (hP : ∀ x, x < 8 → 0 ≤ P x ∧ P x ≤ 100000000) : ∀ (n x : Nat) (s : gx_S), 8 < n + x → x ≤ 8 → s.1 216 = f → (∀ z, z < 8 → s.1 239 z = P z) → ∃ u : gx_S, gm_191_44 n g x s = ((gm_173 u).bind fun q4 => some q4) ∧ (∀ k i, k ≠ 222 → u.1 k i = s.1 k i) ∧ (∀ k i, k ≠ 221 → u.2 k i = s.2 k i) ∧ (∀ x', x ≤ x' → x' < 8 → u.2 221 x' = P x' ∧ ∀ y, y < 9 → u.1 222 (9 * x' + y) = Abk f R C g x' y) ∧ (∀ i, i < x → u.2 221 i = s.2 221 i) ∧ ∀ i, i < 9 * x → u.1 222 i = s.1 222 i := by
  intro n
  induction n with
  | zero => intro x s h; omega
  | succ n ih =>
    intro x s h hx ef hl
    rw [gm_191_44, if_pos (by omega)]
    by_cases q : x = 8
    · rw [if_pos (by omega)]
      exact ⟨s, rfl, fun _ _ _ => rfl, fun _ _ _ => rfl, fun x' h1 h2 => by omega, fun _ _ => rfl, fun _ _ => rfl⟩
    · have i5 : ((x : Int)).toNat = x := by omega
      have lr := hP x (by omega)
      have e16 : (gw2 s 221 x (P x)).1 216 = f := ef
      have c57 := sp_157g (s := gw2 s 221 x (P x)) (R := R) (C := C) (by rw [e16]; exact M) (by rw [e16]; exact h7) (-1) (x : Int) false hg (by omega) (by omega)
      rw [e16] at c57
      have c57 : gm_157 g (-1) x 0 (gw2 s 221 x (P x)) = _ := c57
      have sr := SO_r M h7 hg (-1) (x : Int) false
      rw [if_neg (by omega), if_pos (by omega), i5, hl x (by omega), if_pos (by omega), if_pos (by omega), c57, Option.bind_some]
      show ∃ u : gx_S, (if (-2147483648 ≤ SO f R C g (-1) x false ∧ SO f R C g (-1) x false ≤ 2147483647) then (if ¬ SO f R C g (-1) x false = 0 then gm_191_79 (gm_191_44 n) g x 0 (gw2 s 221 x (P x)) else gm_191_79 (gm_191_44 n) g x 1 (gw2 s 221 x (P x))) else none) = _ ∧ _
      rw [if_pos (by omega)]
      have st : (if ¬ SO f R C g (-1) x false = 0 then gm_191_79 (gm_191_44 n) g x 0 (gw2 s 221 x (P x)) else gm_191_79 (gm_191_44 n) g x 1 (gw2 s 221 x (P x))) = gm_191_83 (gm_191_44 n) 100000 g x (gb (decide (SO f R C g (-1) x false = 0))) 0 (gw2 s 221 x (P x)) := by
        by_cases z : SO f R C g (-1) x false = 0
        · rw [if_neg (fun t => t z), decide_eq_true z]
          rfl
        · rw [if_pos z, decide_eq_false z]
          rfl
      obtain ⟨t, t1, t2, t3, t4, t5⟩ := sl_191_83 (gm_191_44 n) M h7 hg (show x < 8 by omega) (decide (SO f R C g (-1) x false = 0)) 100000 0 (gw2 s 221 x (P x)) (by omega) (by omega) e16
      have t1 : gm_191_83 (gm_191_44 n) 100000 g x (gb (decide (SO f R C g (-1) x false = 0))) 0 (gw2 s 221 x (P x)) = gm_191_44 n g ((x + 1 : Nat) : Int) t := t1
      rw [st, t1]
      have tk : ∀ k i, k ≠ 222 → t.1 k i = s.1 k i := fun k i h1 => t3 k i h1
      obtain ⟨u, u1, u2, u3, u4, u5, u6⟩ := ih (x + 1) t (by omega) (by omega) (by
        funext i
        rw [tk 216 i (by decide), ef]) (fun z hz => by rw [tk 239 z (by decide)]; exact hl z hz)
      refine ⟨u, u1, fun k i h1 => (u2 k i h1).trans (tk k i h1), fun k i h1 => ?_, fun x' h1 h2 => ?_, fun i h1 => ?_, fun i h1 => ?_⟩
      · rw [u3 k i h1, t2, gw2_2, if_neg (fun x => h1 x.1)]
      · by_cases e : x' = x
        · rw [e]
          refine ⟨?_, fun y hy => ?_⟩
          · rw [u5 x (by omega), t2, gw2_2, if_pos ⟨rfl, rfl⟩]
          · rw [u6 _ (by omega), t4 y (by omega) hy]
            rfl
        · exact u4 x' (by omega) h2
      · rw [u5 i (by omega), t2, gw2_2, if_neg (by omega)]
      · rw [u6 i (by omega), t5 i (by omega)]
        rfl
theorem sl_191_11 {g : Nat} : ∀ (n x : Nat) (s : gx_S), 8 < n + x → x ≤ 8 → s.1 215 17 = 8 → ∃ u : gx_S, gm_191_11 n g x s = ((gm_159 8 9 u).bind fun q4 => gm_191_44 100000 g 0 q4) ∧ u.2 = s.2 ∧ (∀ k i, k ≠ 239 → u.1 k i = s.1 k i) ∧ ∀ j, u.1 239 j = if x ≤ j ∧ j < 8 then sg (fun r => s.2 224 (9 * r + j)) 8 else s.1 239 j := by
  intro n
  induction n with
  | zero => intro x s h; omega
  | succ n ih =>
    intro x s h hx e17
    rw [gm_191_11, if_pos (by omega)]
    by_cases q : x = 8
    · rw [if_pos (by omega)]
      exact ⟨s, rfl, rfl, fun _ _ _ => rfl, fun j => by rw [if_neg (by omega)]⟩
    · have ce : ((x : Int) + 1) = ((x + 1 : Nat) : Int) := rfl
      have i5 : ((x : Int)).toNat = x := by omega
      rw [if_neg (by omega), sp_183 (R := 8) e17 (by omega) (show x < 9 by omega), Option.bind_some, if_pos (by omega), i5, ce]
      obtain ⟨u, u1, u2, u3, u4⟩ := ih (x + 1) (gw1 s 239 x (sg (fun r => s.2 224 (9 * r + x)) 8)) (by omega) (by omega) (by rw [gw1_1, if_neg (by omega)]; exact e17)
      refine ⟨u, u1, u2, fun k i h1 => by rw [u3 k i h1, gw1_1, if_neg (fun x => h1 x.1)], fun j => ?_⟩
      rw [u4, gw1_1]
      by_cases y : j = x
      · rw [if_neg (by omega), if_pos ⟨rfl, y⟩, if_pos (by omega), y]
      · by_cases y2 : x + 1 ≤ j ∧ j < 8
        · rw [if_pos y2, if_pos (show x ≤ j ∧ j < 8 by omega)]
          rfl
        · rw [if_neg y2, if_neg (fun t => y t.2), if_neg (show ¬ (x ≤ j ∧ j < 8) by omega)]
/-- scratch of the reference alone -/
theorem KRw_of {s u : gx_S} (h1 : ∀ k j, ¬ (215 ≤ k) ∨ k = 216 ∨ k = 217 ∨ k = 218 ∨ (k = 215 ∧ (j = 2 ∨ j = 4)) ∨ (232 ≤ k ∧ k ≤ 235) → u.1 k j = s.1 k j) (h2 : ∀ k j, k ≠ 221 → u.2 k j = s.2 k j) : KRw s u := ⟨fun k j q => h1 k j (by omega), fun k j q => h2 k j (by omega), fun S => ⟨fun j hj => by rw [h1 232 j (by omega), h1 233 j (by omega), h1 234 j (by omega), h2 225 j (by decide)]; exact S.1 j hj, fun c hc => by rw [h1 235 c (by omega), h2 229 c (by decide), h2 230 c (by decide), h2 227 c (by decide), h2 228 c (by decide)]; exact S.2.1 c hc, fun k hk => by rw [h2 231 k (by decide)]; exact S.2.2 k hk⟩⟩
theorem sp_191 {s : gx_S} {R C g : Nat} (M : MP (s.1 216) R C) (h7 : s.1 216 2 = 7) (hg : g < 3) (S : SC s) : ∃ w : gx_S, gm_191 g s = some w ∧ KRw s w ∧ w.1 215 17 = 8 ∧ w.1 215 18 = 9 ∧ ∀ x y, x < 8 → y < 9 → w.2 224 (9 * x + y) = TB (s.1 216 3) (Pbk (s.1 216) R C g) (Abk (s.1 216) R C g) x y := by
  obtain ⟨a, b, a1, b1, a2, b2, b3, b4, b5⟩ := sp_181f M h7 hg S
  obtain ⟨c, c1, c2, c3, c4⟩ := sl_191_11 (g := g) 100000 0 b (by omega) (by omega) b3
  have c1 : gm_191_11 100000 g 0 b = _ := c1
  have cK : KRw b c := KRw_of (fun k j q => c3 k j (by omega)) fun k j _ => by rw [c2]
  obtain ⟨d, d1, d2, d3, d4, d5, d6, d7⟩ := KR_159 c 8 9
  have Kd : KRw s d := KRw_tr (KR_w b2) (KRw_tr cK (KR_w d2))
  obtain ⟨p1, p2⟩ := PA_bk M h7 hg
  have d39 : ∀ z, z < 8 → d.1 239 z = Pbk (s.1 216) R C g z := fun z hz => by
    rw [d6 239 z (by decide) (by decide), c4, if_pos (by omega)]
    exact sg_eq fun r hr => ((b5 r hr).2.2 z (by omega)).2
  obtain ⟨u, u1, u2, u3, u4, u5, u6⟩ := sl_191_44 M h7 hg p1.1 100000 0 d (by omega) (by omega) (KRw_216 Kd) d39
  have u1 : gm_191_44 100000 g 0 d = _ := u1
  have uK : KRw d u := KRw_of (fun k j q => u2 k j (by omega)) u3
  have Ku := KRw_tr Kd uK
  obtain ⟨w, w1, w2, w3, w4, w5, w6⟩ := TB_ref (md := s.1 216 3) (r := u) (R := 8) (m := 9) M.2.2.1 p1 (Ku.2.2 S) (by rw [u2 215 17 (by decide)]; exact d3) (by rw [u2 215 18 (by decide)]; exact d4) (by omega) (by omega) (fun _ => p2) (by rw [KRw_216 Ku]) (fun x hx => (u4 x (by omega) hx).1) (fun x y hx hy => (u4 x (by omega) hx).2 y hy) (fun x y hx hy hn => absurd ⟨hx, hy⟩ hn)
  refine ⟨w, ?_, KRw_tr Ku (KR_w (KR_rc w3 w4)), ?_, ?_, fun x y hx hy => w2 x y hx hy⟩
  · unfold gm_191
    rw [a1, Option.bind_some, b1, Option.bind_some, c1, d1, Option.bind_some, u1, w1, Option.bind_some]
  · rw [w3.1 215 17 (by decide) (by decide) (by decide) (by decide) (by decide), u2 215 17 (by decide)]
    exact d3
  · rw [w3.1 215 18 (by decide) (by decide) (by decide) (by decide) (by decide), u2 215 18 (by decide)]
    exact d4
theorem inv_returned {s : gx_S} (h : INV s) {x z : Int} (hx : i32 x) (hz : i32 z) : two s (gm_104 x z) (gm_192 x z) := by
  obtain ⟨f, R, C, n, pf, L, tb, c, r, v⟩ := id h
  have hx' := hx
  have hz' := hz
  unfold i32 at hx' hz'
  have c118 := sp_118 c.1 v.1 hx hz
  have c150 : ∀ t : gx_S, t.1 216 = f → gm_150 t = some (decide (f 2 = 7), t) := fun t et => by
    have := sp_150 (s := t) (by rw [et]; exact v.1.2.1)
    rw [et] at this
    exact this
  have s2 : ∀ y : gx_S, y.1 216 = f → gm_192 x z y = if (0 ≤ x ∧ x < 3) ∧ (0 ≤ z ∧ z ≤ 8) ∧ f 2 = 7 then ((gm_191 x y).bind fun q26 => (gm_183 z q26).bind fun q28 => some (q28.1, q28.2)) else some (-1, y) := fun y ey => by
    unfold gm_192
    rw [c150 y ey, Option.bind_some]
    by_cases h7 : f 2 = 7
    · rw [if_neg (fun q => (gbD s).mp q h7)]
      show ((gm_148 x y).bind _) = _
      rw [sp_148 y hx, Option.bind_some]
      by_cases a : 0 ≤ x ∧ x ≤ 2
      · rw [if_neg (fun q => (gbD s).mp q a), if_pos hz', in_ y hz (by omega) (by omega), Option.bind_some]
        by_cases b : 0 ≤ z ∧ z ≤ 8
        · rw [if_pos (fun q => (gbD s).mp q b), if_pos ⟨by omega, b, h7⟩]
        · rw [if_neg (fun q => q ((gbD s).mpr b)), if_neg (fun q => b q.2.1)]
      · rw [if_pos ((gbD s).mpr a), if_neg (fun q => a (by have := q.1; omega))]
    · rw [if_pos ((gbD s).mpr h7), if_neg (fun q => h7 q.2.2)]
  unfold two gm_104
  rw [c118, Option.bind_some]
  by_cases ok : (0 ≤ x ∧ x < 3) ∧ (0 ≤ z ∧ z ≤ 8) ∧ f 2 = 7
  · obtain ⟨a, b, h7⟩ := id ok
    obtain ⟨g, rfl⟩ : ∃ g : Nat, x = g := ⟨x.toNat, by omega⟩
    obtain ⟨z, rfl⟩ : ∃ z' : Nat, z = z' := ⟨z.toNat, by omega⟩
    have hg : g < 3 := by omega
    obtain ⟨D, u, u1, u2, u3, u4, u5, u6⟩ := CV_ready (w := 4) (by omega) v.1 h7 hg c
    have u1 : gm_19 (71 + 48 * g) 4 s = some u := u1
    have tm := u4.2.2.2.2.2.1 u5
    have kc : KC s u := KG_KC (ga_of hg) u3
    have ru := RV_KC kc r
    have eu : u.1 216 = f := ru.1
    obtain ⟨w, w1, w2, w3, w4, w5⟩ := sp_191 (s := u) (R := R) (C := C) (g := g) (by rw [eu]; exact v.1) (by rw [eu]; exact h7) hg ru.2.2.2.2
    rw [eu] at w5
    have s2 := s2 u eu
    rw [if_pos ok, w1, Option.bind_some, sp_183 (R := 8) w3 (by omega) (show z < 9 by omega), Option.bind_some] at s2
    rw [if_pos (fun q => (gbD s).mp q ok), if_pos a, Option.bind_some, vg_ g hg]
    show ∃ (r' : Int) (u' w : gx_S), ((gm_19 (71 + 48 * g) 4 s).bind _) = some (r', u') ∧ _
    rw [u1, Option.bind_some, sp_76 (ga_of hg).2.2.2.2.1 (show z < 9 by omega), Option.bind_some]
    refine ⟨_, u, w, rfl, ?_, q_inv kc u2 r v w2⟩
    rw [s2]
    have e : sg (fun x => w.2 224 (9 * x + z)) 8 = sg (fun x => u.1 (71 + 48 * g + 12 + 8) (9 * x + z)) 8 := sg_eq fun x hx => by
      rw [w5 x z hx (by omega), ((tm x hx).2.2 z (by omega)).2.2.2]
    show some (sg (fun x => w.2 224 (9 * x + z)) 8, w) = _
    rw [e]
  · rw [if_neg (fun q => q ((gbD s).mpr ok))]
    exact ⟨-1, s, s, rfl, (s2 s r.1).trans (if_neg ok), h⟩
end
section
/-! QUERIES: astray -/
def ab_ (x : Int) : Int := if 0 ≤ x then x else 0 - x
theorem sl_105 {a : Nat} {s : gx_S} {P : Nat → Int} {G : Nat → Nat → Int} (ht : fx_oc (a + 12) 7 = true) (hP : ∀ x, x < 8 → s.1 (a + 1) x = P x) (hG : ∀ x y, x < 8 → y < 9 → s.1 (a + 12 + 8) (9 * x + y) = G x y) (hb : ∀ x, x < 8 → -2147483648 ≤ P x - sg (fun r => G r x) 8 ∧ P x - sg (fun r => G r x) 8 ≤ 2147483647) : ∀ (n x : Nat), 8 < n + x → x ≤ 8 → gm_105_37 n a (sg (fun x => ab_ (P x - sg (fun r => G r x) 8)) x) x s = some (sg (fun x => ab_ (P x - sg (fun r => G r x) 8)) 8, s) := by
  intro n
  induction n with
  | zero => intro x h; omega
  | succ n ih =>
    intro x h hx
    rw [gm_105_37, if_pos (by omega)]
    by_cases q : x = 8
    · rw [if_pos (by omega), q]
    · have ce : ((x : Int) + 1) = ((x + 1 : Nat) : Int) := rfl
      have i5 : ((x : Int)).toNat = x := by omega
      have e : sg (fun r => s.1 (a + 12 + 8) (9 * r + x)) 8 = sg (fun r => G r x) 8 := sg_eq fun r hr => hG r x hr (by omega)
      rw [if_neg (by omega), if_pos (by omega), sp_76 ht (show x < 9 by omega), Option.bind_some, i5, hP x (by omega), e, if_pos (hb x (by omega)), ce]
      exact ih (x + 1) (by omega) (by omega)
theorem sl_193_55 {s : gx_S} {P Q : Nat → Int} (hP : ∀ x, x < 8 → s.1 236 x = P x) (hQ : ∀ x, x < 8 → s.1 239 x = Q x) (hb : ∀ x, x < 8 → -2147483648 ≤ P x - Q x ∧ P x - Q x ≤ 2147483647) : ∀ (n x : Nat), 8 < n + x → x ≤ 8 → gm_193_55 n (sg (fun x => ab_ (P x - Q x)) x) x s = some (sg (fun x => ab_ (P x - Q x)) 8, s) := by
  intro n
  induction n with
  | zero => intro x h; omega
  | succ n ih =>
    intro x h hx
    rw [gm_193_55, if_pos (by omega)]
    by_cases q : x = 8
    · rw [if_pos (by omega), q]
    · have ce : ((x : Int) + 1) = ((x + 1 : Nat) : Int) := rfl
      have i5 : ((x : Int)).toNat = x := by omega
      rw [if_neg (by omega), if_pos (by omega), if_pos (by omega), i5, hP x (by omega), hQ x (by omega), if_pos (hb x (by omega)), ce]
      exact ih (x + 1) (by omega) (by omega)
theorem sl_193_23 {g : Nat} : ∀ (n x : Nat) (s : gx_S), 8 < n + x → x ≤ 8 → s.1 215 17 = 8 → ∃ u : gx_S, gm_193_23 n g x s = ((gm_177 g u).bind fun q4 => gm_193_55 100000 0 0 q4) ∧ u.2 = s.2 ∧ (∀ k i, k ≠ 239 → u.1 k i = s.1 k i) ∧ ∀ j, u.1 239 j = if x ≤ j ∧ j < 8 then sg (fun r => s.2 224 (9 * r + j)) 8 else s.1 239 j := by
  intro n
  induction n with
  | zero => intro x s h; omega
  | succ n ih =>
    intro x s h hx e17
    rw [gm_193_23, if_pos (by omega)]
    by_cases q : x = 8
    · rw [if_pos (by omega)]
      exact ⟨s, rfl, rfl, fun _ _ _ => rfl, fun j => by rw [if_neg (by omega)]⟩
    · have ce : ((x : Int) + 1) = ((x + 1 : Nat) : Int) := rfl
      have i5 : ((x : Int)).toNat = x := by omega
      rw [if_neg (by omega), sp_183 (R := 8) e17 (by omega) (show x < 9 by omega), Option.bind_some, if_pos (by omega), i5, ce]
      obtain ⟨u, u1, u2, u3, u4⟩ := ih (x + 1) (gw1 s 239 x (sg (fun r => s.2 224 (9 * r + x)) 8)) (by omega) (by omega) (by rw [gw1_1, if_neg (by omega)]; exact e17)
      refine ⟨u, u1, u2, fun k i h1 => by rw [u3 k i h1, gw1_1, if_neg (fun x => h1 x.1)], fun j => ?_⟩
      rw [u4, gw1_1]
      by_cases y : j = x
      · rw [if_neg (by omega), if_pos ⟨rfl, y⟩, if_pos (by omega), y]
      · by_cases y2 : x + 1 ≤ j ∧ j < 8
        · rw [if_pos y2, if_pos (show x ≤ j ∧ j < 8 by omega)]
          rfl
        · rw [if_neg y2, if_neg (fun t => y t.2), if_neg (show ¬ (x ≤ j ∧ j < 8) by omega)]
theorem inv_astray {s : gx_S} (h : INV s) {x : Int} (hx : i32 x) : two s (gm_105 x) (gm_193 x) := by
  obtain ⟨f, R, C, n, pf, L, tb, c, r, v⟩ := id h
  have hx' := hx
  unfold i32 at hx'
  have e6 : s.1 1 6 = f 2 := c.1.2.2.1
  have c57 := sp_57 (s := s) (a := 1) (by decide +kernel) (by rw [e6]; exact v.1.2.1)
  rw [e6] at c57
  have c150 : ∀ t : gx_S, t.1 216 = f → gm_150 t = some (decide (f 2 = 7), t) := fun t et => by
    have := sp_150 (s := t) (by rw [et]; exact v.1.2.1)
    rw [et] at this
    exact this
  have s2 : ∀ y : gx_S, y.1 216 = f → gm_193 x y = if (0 ≤ x ∧ x < 3) ∧ f 2 = 7 then ((gm_191 x y).bind fun q34 => gm_193_23 100000 x 0 q34) else some (-1, y) := fun y ey => by
    unfold gm_193
    rw [c150 y ey, Option.bind_some]
    by_cases h7 : f 2 = 7
    · rw [if_neg (fun q => (gbD s).mp q h7)]
      show ((gm_148 x y).bind _) = _
      rw [sp_148 y hx, Option.bind_some]
      by_cases a : 0 ≤ x ∧ x ≤ 2
      · rw [if_pos (fun q => (gbD s).mp q a), if_pos ⟨by omega, h7⟩]
      · rw [if_neg (fun q => q ((gbD s).mpr a)), if_neg (fun q => a (by have := q.1; omega))]
    · rw [if_pos ((gbD s).mpr h7), if_neg (fun q => h7 q.2)]
  have s1 : gm_105 x s = if (0 ≤ x ∧ x < 3) ∧ f 2 = 7 then (if 0 ≤ x ∧ x < 3 then ((some (fx_rf 70 (x).toNat)).bind fun v27 => (gm_19 v27 4 s).bind fun q32 => gm_105_37 100000 v27 0 0 q32) else none) else some (-1, s) := by
    unfold gm_105
    rw [sp_114 s hx, Option.bind_some]
    by_cases a : 0 ≤ x ∧ x < 3
    · rw [if_neg (fun q => (gbD s).mp q a)]
      show ((gm_57 1 s).bind _) = _
      rw [c57, Option.bind_some]
      by_cases h7 : f 2 = 7
      · rw [if_pos (fun q => (gbD s).mp q h7), if_pos (show (0 ≤ x ∧ x < 3) ∧ f 2 = 7 from ⟨a, h7⟩)]
      · rw [if_neg (fun q => q ((gbD s).mpr h7)), if_neg (fun q => h7 q.2)]
    · rw [if_pos ((gbD s).mpr a), if_neg (fun q => a q.1)]
  by_cases ok : (0 ≤ x ∧ x < 3) ∧ f 2 = 7
  · obtain ⟨a, h7⟩ := id ok
    obtain ⟨g, rfl⟩ : ∃ g : Nat, x = g := ⟨x.toNat, by omega⟩
    have hg : g < 3 := by omega
    obtain ⟨D, u, u1, u2, u3, u4, u5, u6⟩ := CV_ready (w := 4) (by omega) v.1 h7 hg c
    have u1 : gm_19 (71 + 48 * g) 4 s = some u := u1
    have tm := u4.2.2.2.2.2.1 u5
    have lv := (u4.2.2.2.1 (u6 (by omega)).2).1
    have kc : KC s u := KG_KC (ga_of hg) u3
    have ru := RV_KC kc r
    have eu : u.1 216 = f := ru.1
    obtain ⟨p1, p2⟩ := PA_bk v.1 h7 hg
    obtain ⟨b1, b2⟩ := TB_0 (md := f 3) v.1.2.2.1 p1 (fun _ => p2)
    obtain ⟨l1, l2⟩ := LV_r v.1 hg
    have lb : ∀ x, x < 8 → 0 ≤ LV f R C g x ∧ LV f R C g x ≤ 100000000 := (PA_mv v.1 h7 hg).1.1
    have cb8 : ∀ x, x < 8 → 0 ≤ sg (fun r => TB (f 3) (Pbk f R C g) (Abk f R C g) r x) 8 ∧ sg (fun r => TB (f 3) (Pbk f R C g) (Abk f R C g) r x) 8 ≤ 800000072 := fun x hx => by
      refine ⟨sg_nn fun r hr => (b1 r x hr (by omega)).1, ?_⟩
      exact Int.le_trans (sg_le (g := fun _ => 100000009) fun r hr => by
        have := (b1 r x hr (by omega)).2
        have := (p1.1 r hr).2
        show TB (f 3) (Pbk f R C g) (Abk f R C g) r x ≤ 100000009
        omega) (by decide)
    have hb : ∀ x, x < 8 → -2147483648 ≤ LV f R C g x - sg (fun r => TB (f 3) (Pbk f R C g) (Abk f R C g) r x) 8 ∧ LV f R C g x - sg (fun r => TB (f 3) (Pbk f R C g) (Abk f R C g) r x) 8 ≤ 2147483647 := fun x hx => by
      have := lb x hx
      have := cb8 x hx
      omega
    have t1 := sl_105 (a := 71 + 48 * g) (s := u) (ga_of hg).2.2.2.2.1 lv (fun x y hx hy => ((tm x hx).2.2 y hy).2.2.2) hb 100000 0 (by omega) (by omega)
    have t1 : gm_105_37 100000 (71 + 48 * g) 0 0 u = _ := t1
    obtain ⟨w, w1, w2, w3, w4, w5⟩ := sp_191 (s := u) (R := R) (C := C) (g := g) (by rw [eu]; exact v.1) (by rw [eu]; exact h7) hg ru.2.2.2.2
    rw [eu] at w5
    obtain ⟨y, y1, y2, y3, y4⟩ := sl_193_23 (g := g) 100000 0 w (by omega) (by omega) w3
    have y1 : gm_193_23 100000 g 0 w = _ := y1
    have yK : KRw w y := KRw_of (fun k j q => y3 k j (by omega)) fun k j _ => by rw [y2]
    have Ky := KRw_tr w2 yK
    have ey : y.1 216 = f := (KRw_216 Ky).trans eu
    obtain ⟨z, z1, z2, z3⟩ := sp_177 (s := y) (R := R) (C := C) (g := g) (by rw [ey]; exact v.1) hg
    rw [ey] at z2
    have z39 : ∀ x, x < 8 → z.1 239 x = sg (fun r => TB (f 3) (Pbk f R C g) (Abk f R C g) r x) 8 := fun x hx => by
      rw [z3.1 239 x (by omega), y4, if_pos (by omega)]
      exact sg_eq fun r hr => w5 r x hr (by omega)
    have t2 := sl_193_55 z2 z39 hb 100000 0 (by omega) (by omega)
    have t2 : gm_193_55 100000 0 0 z = _ := t2
    have s2 := s2 u eu
    rw [if_pos ok, w1, Option.bind_some, y1, z1, Option.bind_some, t2] at s2
    rw [if_pos ok, if_pos a, Option.bind_some, vg_ g hg, u1, Option.bind_some, t1] at s1
    exact ⟨_, u, z, s1, s2, q_inv kc u2 r v (KRw_tr Ky (KR_w z3))⟩
  · rw [if_neg ok] at s1
    exact ⟨-1, s, s, s1, (s2 s r.1).trans (if_neg ok), h⟩
end
section
/-! THE REFERENCE: coarse parts -/
theorem dsc_r_ {f : Nat → Int} {R C y : Nat} (M : MP f R C) (hy : y < 9) : 0 ≤ dsc f y ∧ dsc f y ≤ 4 := by
  have m := M.2.2.2.2.2.2.1
  unfold dsc
  by_cases e : y = 8
  · rw [if_pos e]
    omega
  · rw [if_neg e]
    have := m y (by omega)
    omega
theorem sp_186 {s : gx_S} {f : Nat → Int} {y : Nat} (e : s.1 216 = f) (hy : y < 9) : gm_186 y s = some (dsc f y, s) := by
  unfold gm_186 dsc
  rw [if_pos (by omega)]
  by_cases q : y = 8
  · rw [if_neg (by omega), if_pos q]
  · rw [if_pos (by omega), if_neg q, if_pos (by omega), show (44 + (y : Int)).toNat = 44 + y by omega, e]
/-- the parts by district, up to column y -/
def dpt (f : Nat → Int) (A : Nat → Int) (d y : Nat) : Int := sg (fun y => if dsc f y = (d : Int) then A y else 0) y
theorem sl_187_91 {k : Int → gx_S → Option gx_S} {x : Nat} (hx : x < 8) : ∀ (n d : Nat) (s : gx_S), 5 < n + d → d ≤ 5 → ∃ u : gx_S, gm_187_91 k n x d s = k ((x + 1 : Nat) : Int) u ∧ u.2 = s.2 ∧ (∀ k i, k ≠ 222 → u.1 k i = s.1 k i) ∧ (∀ j, d ≤ j → j < 5 → u.1 222 (9 * x + j) = s.1 237 j) ∧ ∀ i, ¬ (9 * x + d ≤ i ∧ i < 9 * x + 5) → u.1 222 i = s.1 222 i := by
  intro n
  induction n with
  | zero => intro d s h; omega
  | succ n ih =>
    intro d s h hd
    rw [gm_187_91, if_pos (by omega)]
    by_cases q : d = 5
    · rw [if_pos (by omega)]
      exact ⟨s, rfl, rfl, fun _ _ _ => rfl, fun j h1 h2 => by omega, fun _ _ => rfl⟩
    · have ce : ((d : Int) + 1) = ((d + 1 : Nat) : Int) := rfl
      have i1 : ((9 * (x : Int) + (d : Int))).toNat = 9 * x + d := by omega
      have i2 : ((d : Int)).toNat = d := by omega
      rw [if_neg (by omega), sp_160, Option.bind_some, if_pos (by omega)]
      show ∃ u : gx_S, (if 0 ≤ (9 * (x : Int) + (d : Int)) ∧ (9 * (x : Int) + (d : Int)) < 72 then gm_187_91 k n x ((d : Int) + 1) (gw1 s 222 ((9 * (x : Int) + (d : Int))).toNat (s.1 237 ((d : Int)).toNat)) else none) = _ ∧ _
      rw [if_pos (by omega), i1, i2, ce]
      obtain ⟨u, u1, u2, u3, u4, u5⟩ := ih (d + 1) (gw1 s 222 (9 * x + d) (s.1 237 d)) (by omega) (by omega)
      refine ⟨u, u1, u2, fun k i h1 => by rw [u3 k i h1, gw1_1, if_neg (fun x => h1 x.1)], fun j h1 h2 => ?_, fun i h1 => ?_⟩
      · by_cases e : j = d
        · rw [e, u5 _ (by omega), gw1_1, if_pos ⟨rfl, rfl⟩]
        · rw [u4 j (by omega) h2, gw1_1, if_neg (by omega)]
      · rw [u5 i (by omega), gw1_1, if_neg (by omega)]
theorem sl_187_41 {f : Nat → Int} {R C x : Nat} {A : Nat → Int} {k : Int → gx_S → Option gx_S} (M : MP f R C) (hx : x < 8) : ∀ (n y : Nat) (s : gx_S), 9 < n + y → y ≤ 9 → s.1 216 = f → (∀ j, y ≤ j → j < 9 → s.1 222 (9 * x + j) = A j) → (∀ d, d < 5 → s.1 237 d = dpt f A d y) → ∃ u : gx_S, gm_187_41 k n x y s = gm_187_91 k 100000 x 0 u ∧ u.2 = s.2 ∧ (∀ k i, k ≠ 222 → k ≠ 237 → u.1 k i = s.1 k i) ∧ (∀ d, d < 5 → u.1 237 d = dpt f A d 9) ∧ ∀ i, ¬ (9 * x + y ≤ i ∧ i < 9 * x + 9) → u.1 222 i = s.1 222 i := by
  intro n
  induction n with
  | zero => intro y s h; omega
  | succ n ih =>
    intro y s h hy ef hA hd
    rw [gm_187_41, if_pos (by omega)]
    by_cases q : y = 9
    · rw [if_pos (by omega)]
      exact ⟨s, rfl, rfl, fun _ _ _ _ => rfl, fun d h1 => by rw [hd d h1, q], fun _ _ => rfl⟩
    · have ce : ((y : Int) + 1) = ((y + 1 : Nat) : Int) := rfl
      have i1 : ((9 * (x : Int) + (y : Int))).toNat = 9 * x + y := by omega
      have dr := dsc_r_ M (show y < 9 by omega)
      obtain ⟨e, he⟩ : ∃ e : Nat, dsc f y = e := ⟨_, (Int.toNat_of_nonneg dr.1).symm⟩
      rw [he] at dr
      have i2 : ((e : Int)).toNat = e := by omega
      rw [if_neg (by omega), sp_186 ef (show y < 9 by omega), Option.bind_some, he, if_pos (by omega), sp_160, Option.bind_some]
      show ∃ u : gx_S, (if 0 ≤ (9 * (x : Int) + (y : Int)) ∧ (9 * (x : Int) + (y : Int)) < 72 then ((gm_160 x y (gw1 s 237 ((e : Int)).toNat ((s.1 237 ((e : Int)).toNat) + (s.1 222 ((9 * (x : Int) + (y : Int))).toNat)))).bind fun q16 => if 0 ≤ q16.1 ∧ q16.1 < 72 then gm_187_41 k n x ((y : Int) + 1) (gw1 q16.2 222 (q16.1).toNat 0) else none) else none) = _ ∧ _
      rw [if_pos (by omega), sp_160, Option.bind_some]
      show ∃ u : gx_S, (if 0 ≤ (9 * (x : Int) + (y : Int)) ∧ (9 * (x : Int) + (y : Int)) < 72 then gm_187_41 k n x ((y : Int) + 1) (gw1 (gw1 s 237 ((e : Int)).toNat ((s.1 237 ((e : Int)).toNat) + (s.1 222 ((9 * (x : Int) + (y : Int))).toNat))) 222 ((9 * (x : Int) + (y : Int))).toNat 0) else none) = _ ∧ _
      rw [if_pos (by omega), i1, i2, ce, hA y (Nat.le_refl y) (by omega)]
      obtain ⟨t, ht⟩ : ∃ t, t = gw1 (gw1 s 237 e (s.1 237 e + A y)) 222 (9 * x + y) 0 := ⟨_, rfl⟩
      have to : ∀ k i, k ≠ 222 → k ≠ 237 → t.1 k i = s.1 k i := fun k i h1 h2 => by rw [ht, gw1_1, if_neg (by omega), gw1_1, if_neg (by omega)]
      have t2 : ∀ i, i ≠ 9 * x + y → t.1 222 i = s.1 222 i := fun i h1 => by rw [ht, gw1_1, if_neg (by omega), gw1_1, if_neg (by omega)]
      rw [← ht]
      obtain ⟨u, u1, u2, u3, u4, u5⟩ := ih (y + 1) t (by omega) (by omega) (by
        funext i
        rw [to 216 i (by decide) (by decide), ef]) (fun j h1 h2 => by rw [t2 _ (by omega)]; exact hA j (by omega) h2) (fun d h1 => by
        rw [ht, gw1_1, if_neg (by omega), gw1_1]
        show _ = dpt f A d y + (if dsc f y = (d : Int) then A y else 0)
        by_cases z : d = e
        · rw [if_pos ⟨rfl, z⟩, if_pos (by rw [he, z]), hd e (by omega), z]
        · rw [if_neg (fun t => z t.2), if_neg (by rw [he]; omega), hd d h1, Int.add_zero])
      exact ⟨u, u1, by rw [u2, ht]; rfl, fun k i h1 h2 => by rw [u3 k i h1 h2, to k i h1 h2], u4, fun i h1 => by rw [u5 i (by omega), t2 i (by omega)]⟩
theorem sl_187_21 {x : Nat} {k : Int → gx_S → Option gx_S} : ∀ (n d : Nat) (s : gx_S), 5 < n + d → d ≤ 5 → ∃ u : gx_S, gm_187_21 k n x d s = gm_187_41 k 100000 x 0 u ∧ u.2 = s.2 ∧ (∀ k i, k ≠ 237 → u.1 k i = s.1 k i) ∧ ∀ j, u.1 237 j = if d ≤ j ∧ j < 5 then 0 else s.1 237 j := by
  intro n
  induction n with
  | zero => intro d s h; omega
  | succ n ih =>
    intro d s h hd
    rw [gm_187_21, if_pos (by omega)]
    by_cases q : d = 5
    · rw [if_pos (by omega)]
      exact ⟨s, rfl, rfl, fun _ _ _ => rfl, fun j => by rw [if_neg (by omega)]⟩
    · have ce : ((d : Int) + 1) = ((d + 1 : Nat) : Int) := rfl
      have i2 : ((d : Int)).toNat = d := by omega
      rw [if_neg (by omega), if_pos (by omega), i2, ce]
      obtain ⟨u, u1, u2, u3, u4⟩ := ih (d + 1) (gw1 s 237 d 0) (by omega) (by omega)
      refine ⟨u, u1, u2, fun k i h1 => by rw [u3 k i h1, gw1_1, if_neg (fun x => h1 x.1)], fun j => ?_⟩
      rw [u4, gw1_1]
      by_cases e : j = d
      · rw [if_neg (by omega), if_pos ⟨rfl, e⟩, if_pos (by omega)]
      · by_cases e2 : d + 1 ≤ j ∧ j < 5
        · rw [if_pos e2, if_pos (show d ≤ j ∧ j < 5 by omega)]
        · rw [if_neg e2, if_neg (fun t => e t.2), if_neg (show ¬ (d ≤ j ∧ j < 5) by omega)]
theorem sl_187_7 {f : Nat → Int} {R C : Nat} {A : Nat → Nat → Int} (M : MP f R C) : ∀ (n x : Nat) (s : gx_S), 8 < n + x → x ≤ 8 → s.1 216 = f → (∀ x' y, x ≤ x' → x' < 8 → y < 9 → s.1 222 (9 * x' + y) = A x' y) → ∃ u : gx_S, gm_187_7 n x s = some (gw1 u 215 18 5) ∧ u.2 = s.2 ∧ (∀ k i, k ≠ 222 → k ≠ 237 → u.1 k i = s.1 k i) ∧ (∀ x' d, x ≤ x' → x' < 8 → d < 5 → u.1 222 (9 * x' + d) = dpt f (A x') d 9) ∧ ∀ i, i < 9 * x → u.1 222 i = s.1 222 i := by
  intro n
  induction n with
  | zero => intro x s h; omega
  | succ n ih =>
    intro x s h hx ef hA
    rw [gm_187_7, if_pos (by omega)]
    by_cases q : x = 8
    · rw [if_pos (by omega)]
      exact ⟨s, rfl, rfl, fun _ _ _ _ => rfl, fun x' d h1 h2 => by omega, fun _ _ => rfl⟩
    · rw [if_neg (by omega)]
      obtain ⟨a, a1, a2, a3, a4⟩ := sl_187_21 (x := x) (k := gm_187_7 n) 100000 0 s (by omega) (by omega)
      have a1 : gm_187_21 (gm_187_7 n) 100000 x 0 s = _ := a1
      obtain ⟨b, b1, b2, b3, b4, b5⟩ := sl_187_41 (k := gm_187_7 n) (A := A x) M (show x < 8 by omega) 100000 0 a (by omega) (by omega) (by
        funext i
        rw [a3 216 i (by decide), ef]) (fun j h1 h2 => by rw [a3 222 _ (by decide)]; exact hA x j (Nat.le_refl x) (by omega) h2) (fun d h1 => by
        rw [a4, if_pos (by omega)]
        rfl)
      have b1 : gm_187_41 (gm_187_7 n) 100000 x 0 a = _ := b1
      obtain ⟨c, c1, c2, c3, c4, c5⟩ := sl_187_91 (k := gm_187_7 n) (show x < 8 by omega) 100000 0 b (by omega) (by omega)
      have c1 : gm_187_91 (gm_187_7 n) 100000 x 0 b = _ := c1
      have ck : ∀ k i, k ≠ 222 → k ≠ 237 → c.1 k i = s.1 k i := fun k i h1 h2 => by rw [c3 k i h1, b3 k i h1 h2, a3 k i h2]
      have co_ : ∀ i, ¬ (9 * x ≤ i ∧ i < 9 * x + 9) → c.1 222 i = s.1 222 i := fun i h1 => by rw [c5 i (by omega), b5 i (by omega), a3 222 i (by decide)]
      obtain ⟨u, u1, u2, u3, u4, u5⟩ := ih (x + 1) c (by omega) (by omega) (by
        funext i
        rw [ck 216 i (by decide) (by decide), ef]) (fun x' y h1 h2 h3 => by rw [co_ _ (by omega)]; exact hA x' y (by omega) h2 h3)
      rw [a1, b1, c1]
      refine ⟨u, u1, by rw [u2, c2, b2, a2], fun k i h1 h2 => by rw [u3 k i h1 h2, ck k i h1 h2], fun x' d h1 h2 h3 => ?_, fun i h1 => by rw [u5 i (by omega), co_ i (by omega)]⟩
      by_cases e : x' = x
      · rw [e, u5 _ (by omega), c4 d (by omega) h3, b4 d h3]
      · exact u4 x' d (by omega) h2 h3
theorem sp_187 {s : gx_S} {R C g : Nat} (M : MP (s.1 216) R C) (h7 : s.1 216 2 = 7) (hg : g < 3) : ∃ u : gx_S, gm_187 g s = some u ∧ KRw s u ∧ u.1 215 17 = 8 ∧ u.1 215 18 = 5 ∧ (∀ x, x < 8 → u.2 221 x = LV (s.1 216) R C g x) ∧ ∀ x d, x < 8 → d < 5 → u.1 222 (9 * x + d) = Aco (s.1 216) R C g x d := by
  obtain ⟨a, a1, a2, a3, a4, a5⟩ := sp_181 M h7 hg
  obtain ⟨u, u1, u2, u3, u4, u5⟩ := sl_187_7 (A := PMV (s.1 216) R C g) M 100000 0 a (by omega) (by omega) (KR_216 a2) (fun x' y _ h2 h3 => (a5 x' h2).2 y h3)
  have u1 : gm_187_7 100000 0 a = _ := u1
  refine ⟨gw1 u 215 18 5, ?_, KRw_tr (KR_w a2) (KRw_of (fun k j q => by rw [gw1_1, if_neg (by omega), u3 k j (by omega) (by omega)]) fun k j _ => by rw [gw1_2, u2]), ?_, by rw [gw1_1, if_pos ⟨rfl, rfl⟩], fun x hx => ?_, fun x d hx hd => ?_⟩
  · unfold gm_187
    rw [a1, Option.bind_some, u1]
  · rw [gw1_1, if_neg (by omega), u3 215 17 (by decide) (by decide)]
    exact a3
  · rw [gw1_2, u2]
    exact (a5 x hx).1
  · rw [gw1_1, if_neg (by omega), u4 x d (by omega) hx hd]
    rfl
end
section
/-! QUERIES: coarse -/
def cos_ (f : Nat → Int) (R C g : Nat) (d : Int) (n : Nat) : Int := sg (fun y => if dsc f y = d then sg (fun x => GV f R C g x y) 8 else 0) n
theorem sl_101 {f : Nat → Int} {R C g a : Nat} {d : Int} {s : gx_S} (M : MP f R C) (m : MR s 1 f R C) (ht : fx_oc (a + 3) 7 = true) (hd : i32 d) (hG : ∀ x y, x < 8 → y < 9 → s.1 (a + 3 + 8) (9 * x + y) = GV f R C g x y) : ∀ (n y : Nat), 8 < n + y → y ≤ 8 → gm_101_79 n d a (cos_ f R C g d y) y s = some (cos_ f R C g d 8, s) := by
  unfold i32 at hd
  intro n
  induction n with
  | zero => intro y h; omega
  | succ n ih =>
    intro y h hy
    rw [gm_101_79, if_pos (by omega)]
    by_cases q : y = 8
    · rw [if_pos (by omega), q]
    · have ce : ((y : Int) + 1) = ((y + 1 : Nat) : Int) := rfl
      have i5 : ((y : Int)).toNat = y := by omega
      have dr := dsc_r M (show y < 9 by omega)
      have e5 : s.1 5 y = dsc f y := by
        have := m.2.2.2.2.2.2.2.1 y (by omega)
        rw [show (1 : Nat) + 4 = 5 from rfl] at this
        rw [this, (dr.2.2 (by omega)).2]
      have e : sg (fun x => s.1 (a + 3 + 8) (9 * x + y)) 8 = sg (fun x => GV f R C g x y) 8 := sg_eq fun x hx => hG x y hx (by omega)
      rw [if_neg (by omega), if_pos (by omega), i5, e5, if_pos (by omega), if_pos hd]
      unfold gm_101_115
      by_cases z : dsc f y = d
      · rw [if_neg (fun t => t z), sp_76 ht (show y < 9 by omega), Option.bind_some, e, ce]
        have st : cos_ f R C g d y + sg (fun x => GV f R C g x y) 8 = cos_ f R C g d (y + 1) := by
          show _ = cos_ f R C g d y + (if dsc f y = d then sg (fun x => GV f R C g x y) 8 else 0)
          rw [if_pos z]
        show gm_101_79 n d a (cos_ f R C g d y + sg (fun x => GV f R C g x y) 8) ((y + 1 : Nat) : Int) s = _
        rw [st]
        exact ih (y + 1) (by omega) (by omega)
      · rw [if_pos z, ce]
        have st : cos_ f R C g d (y + 1) = cos_ f R C g d y := by
          show cos_ f R C g d y + (if dsc f y = d then sg (fun x => GV f R C g x y) 8 else 0) = _
          rw [if_neg z, Int.add_zero]
        rw [← st]
        exact ih (y + 1) (by omega) (by omega)
theorem sl_188 {f : Nat → Int} {R C g : Nat} {d : Int} {s : gx_S} (M : MP f R C) (ef : s.1 216 = f) (h17 : s.1 215 17 = 8) (hd : i32 d) (hG : ∀ x y, x < 8 → y < 9 → s.2 224 (9 * x + y) = GV f R C g x y) : ∀ (n y : Nat), 8 < n + y → y ≤ 8 → gm_188_73 n d (cos_ f R C g d y) y s = some (cos_ f R C g d 8, s) := by
  unfold i32 at hd
  intro n
  induction n with
  | zero => intro y h; omega
  | succ n ih =>
    intro y h hy
    rw [gm_188_73, if_pos (by omega)]
    by_cases q : y = 8
    · rw [if_pos (by omega), q]
    · have ce : ((y : Int) + 1) = ((y + 1 : Nat) : Int) := rfl
      have dr := dsc_r M (show y < 9 by omega)
      have e : sg (fun x => s.2 224 (9 * x + y)) 8 = sg (fun x => GV f R C g x y) 8 := sg_eq fun x hx => hG x y hx (by omega)
      rw [if_neg (by omega), sp_186 ef (show y < 9 by omega), Option.bind_some, if_pos (by omega), if_pos hd]
      unfold gm_188_102
      by_cases z : dsc f y = d
      · rw [if_neg (fun t => t z), sp_183 (R := 8) h17 (by omega) (show y < 9 by omega), Option.bind_some, e, ce]
        have st : cos_ f R C g d y + sg (fun x => GV f R C g x y) 8 = cos_ f R C g d (y + 1) := by
          show _ = cos_ f R C g d y + (if dsc f y = d then sg (fun x => GV f R C g x y) 8 else 0)
          rw [if_pos z]
        show gm_188_73 n d (cos_ f R C g d y + sg (fun x => GV f R C g x y) 8) ((y + 1 : Nat) : Int) s = _
        rw [st]
        exact ih (y + 1) (by omega) (by omega)
      · rw [if_pos z, ce]
        have st : cos_ f R C g d (y + 1) = cos_ f R C g d y + 0 := by
          show cos_ f R C g d y + (if dsc f y = d then sg (fun x => GV f R C g x y) 8 else 0) = _
          rw [if_neg z]
        rw [← st]
        exact ih (y + 1) (by omega) (by omega)
/-- the coarse table on the reference's side -/
theorem sp_187f {s : gx_S} {R C g : Nat} (M : MP (s.1 216) R C) (h7 : s.1 216 2 = 7) (hg : g < 3) (S : SC s) : ∃ u w : gx_S, gm_187 g s = some u ∧ gm_173 u = some w ∧ KRw s w ∧ w.1 215 17 = 8 ∧ w.1 215 18 = 5 ∧ ∀ x d, x < 8 → d < 5 → w.2 224 (9 * x + d) = GC_ (s.1 216) R C g x d := by
  obtain ⟨u, u1, u2, u3, u4, u5, u6⟩ := sp_187 M h7 hg
  obtain ⟨p1, p2, p3, p4⟩ := PA_co M h7 hg
  obtain ⟨w, w1, w2, w3, w4, w5, w6⟩ := TB_ref (md := s.1 216 3) (r := u) (R := 8) (m := 5) M.2.2.1 p1 (u2.2.2 S) u3 u4 (by omega) (by omega) (fun _ => p2) (by rw [KRw_216 u2]) (fun x hx => u5 x hx) (fun x y hx hy => u6 x y hx hy) (fun x y hx hy hn => p3 x y hy (by omega))
  refine ⟨u, w, u1, w1, KRw_tr u2 (KR_w (KR_rc w3 w4)), ?_, ?_, fun x d hx hd => w2 x d hx hd⟩
  · rw [w3.1 215 17 (by decide) (by decide) (by decide) (by decide) (by decide)]
    exact u3
  · rw [w3.1 215 18 (by decide) (by decide) (by decide) (by decide) (by decide)]
    exact u4
theorem inv_coarse {s : gx_S} (h : INV s) {x d t : Int} (hx : i32 x) (hd : i32 d) (ht : i32 t) : two s (gm_101 x d t) (gm_188 x d t) := by
  obtain ⟨f, R, C, n, pf, L, tb, c, r, v⟩ := id h
  have hx' := hx
  have hd' := hd
  have ht' := ht
  unfold i32 at hx' hd' ht'
  have e6 : s.1 1 6 = f 2 := c.1.2.2.1
  have c57 := sp_57 (s := s) (a := 1) (by decide +kernel) (by rw [e6]; exact v.1.2.1)
  rw [e6] at c57
  have c150 : ∀ t : gx_S, t.1 216 = f → gm_150 t = some (decide (f 2 = 7), t) := fun t et => by
    have := sp_150 (s := t) (by rw [et]; exact v.1.2.1)
    rw [et] at this
    exact this
  have s1 : gm_101 x d t s = if ((0 ≤ x ∧ x < 3) ∧ f 2 = 7) ∧ (0 ≤ d ∧ d < 4) ∧ (0 ≤ t ∧ t ≤ 1) then (if 0 ≤ x ∧ x < 3 then ((some (fx_rf 70 (x).toNat)).bind fun v46 => if ¬ t = 1 then ((gm_19 v46 2 s).bind fun q52 => gm_101_79 100000 d v46 0 0 q52) else ((gm_19 v46 8 s).bind fun q54 => (gm_76 (v46 + 21) d q54).bind fun q56 => some (q56.1, q56.2))) else none) else some (-1, s) := by
    unfold gm_101
    rw [sp_114 s hx, Option.bind_some]
    by_cases a : 0 ≤ x ∧ x < 3
    · rw [if_neg (fun q => (gbD s).mp q a)]
      show ((gm_57 1 s).bind _) = _
      rw [c57, Option.bind_some]
      by_cases h7 : f 2 = 7
      · rw [if_neg (fun q => (gbD s).mp q h7)]
        show ((gm_117 d s).bind _) = _
        rw [sp_117 s hd, Option.bind_some]
        by_cases b : 0 ≤ d ∧ d < 4
        · rw [if_neg (fun q => (gbD s).mp q b), if_pos ht']
          by_cases e : t < 0
          · rw [if_pos e, if_neg (show ¬ (((0 ≤ x ∧ x < 3) ∧ f 2 = 7) ∧ (0 ≤ d ∧ d < 4) ∧ (0 ≤ t ∧ t ≤ 1)) by omega)]
          · rw [if_neg e]
            by_cases e2 : t ≤ 1
            · rw [if_pos e2, if_pos (show ((0 ≤ x ∧ x < 3) ∧ f 2 = 7) ∧ (0 ≤ d ∧ d < 4) ∧ (0 ≤ t ∧ t ≤ 1) by omega)]
            · rw [if_neg e2, if_neg (show ¬ (((0 ≤ x ∧ x < 3) ∧ f 2 = 7) ∧ (0 ≤ d ∧ d < 4) ∧ (0 ≤ t ∧ t ≤ 1)) by omega)]
        · rw [if_pos ((gbD s).mpr b), if_neg (show ¬ (((0 ≤ x ∧ x < 3) ∧ f 2 = 7) ∧ (0 ≤ d ∧ d < 4) ∧ (0 ≤ t ∧ t ≤ 1)) from fun q => b q.2.1)]
      · rw [if_pos ((gbD s).mpr h7), if_neg (show ¬ (((0 ≤ x ∧ x < 3) ∧ f 2 = 7) ∧ (0 ≤ d ∧ d < 4) ∧ (0 ≤ t ∧ t ≤ 1)) from fun q => h7 q.1.2)]
    · rw [if_pos ((gbD s).mpr a), if_neg (show ¬ (((0 ≤ x ∧ x < 3) ∧ f 2 = 7) ∧ (0 ≤ d ∧ d < 4) ∧ (0 ≤ t ∧ t ≤ 1)) from fun q => a q.1.1)]
  have s2 : ∀ y : gx_S, y.1 216 = f → gm_188 x d t y = if ((0 ≤ x ∧ x < 3) ∧ f 2 = 7) ∧ (0 ≤ d ∧ d < 4) ∧ (0 ≤ t ∧ t ≤ 1) then (if ¬ t = 1 then ((gm_181 x y).bind fun q51 => (gm_173 q51).bind fun q53 => gm_188_73 100000 d 0 0 q53) else ((gm_187 x y).bind fun q55 => (gm_173 q55).bind fun q57 => (gm_183 d q57).bind fun q59 => some (q59.1, q59.2))) else some (-1, y) := fun y ey => by
    unfold gm_188
    rw [c150 y ey, Option.bind_some]
    by_cases h7 : f 2 = 7
    · rw [if_neg (fun q => (gbD s).mp q h7)]
      show ((gm_148 x y).bind _) = _
      rw [sp_148 y hx, Option.bind_some]
      by_cases a : 0 ≤ x ∧ x ≤ 2
      · rw [if_neg (fun q => (gbD s).mp q a), if_pos hd', in_ y hd (by omega) (by omega), Option.bind_some]
        by_cases b : 0 ≤ d ∧ d ≤ 3
        · rw [if_neg (fun q => (gbD s).mp q b), if_pos ht', in_ y ht (by omega) (by omega), Option.bind_some]
          by_cases e : 0 ≤ t ∧ t ≤ 1
          · rw [if_pos (fun q => (gbD s).mp q e), if_pos (show ((0 ≤ x ∧ x < 3) ∧ f 2 = 7) ∧ (0 ≤ d ∧ d < 4) ∧ (0 ≤ t ∧ t ≤ 1) by omega)]
          · rw [if_neg (fun q => q ((gbD s).mpr e)), if_neg (show ¬ (((0 ≤ x ∧ x < 3) ∧ f 2 = 7) ∧ (0 ≤ d ∧ d < 4) ∧ (0 ≤ t ∧ t ≤ 1)) from fun q => e q.2.2)]
        · rw [if_pos ((gbD s).mpr b), if_neg (show ¬ (((0 ≤ x ∧ x < 3) ∧ f 2 = 7) ∧ (0 ≤ d ∧ d < 4) ∧ (0 ≤ t ∧ t ≤ 1)) by omega)]
      · rw [if_pos ((gbD s).mpr a), if_neg (show ¬ (((0 ≤ x ∧ x < 3) ∧ f 2 = 7) ∧ (0 ≤ d ∧ d < 4) ∧ (0 ≤ t ∧ t ≤ 1)) by omega)]
    · rw [if_pos ((gbD s).mpr h7), if_neg (show ¬ (((0 ≤ x ∧ x < 3) ∧ f 2 = 7) ∧ (0 ≤ d ∧ d < 4) ∧ (0 ≤ t ∧ t ≤ 1)) from fun q => h7 q.1.2)]
  by_cases ok : ((0 ≤ x ∧ x < 3) ∧ f 2 = 7) ∧ (0 ≤ d ∧ d < 4) ∧ (0 ≤ t ∧ t ≤ 1)
  · obtain ⟨⟨a, h7⟩, b, e⟩ := id ok
    obtain ⟨g, rfl⟩ : ∃ g : Nat, x = g := ⟨x.toNat, by omega⟩
    have hg : g < 3 := by omega
    rw [if_pos ok, if_pos a, Option.bind_some, vg_ g hg] at s1
    by_cases t1 : t = 1
    · obtain ⟨d, rfl⟩ : ∃ d' : Nat, d = d' := ⟨d.toNat, by omega⟩
      obtain ⟨D, u, u1, u2, u3, u4, u5, u6⟩ := CV_ready (w := 8) (by omega) v.1 h7 hg c
      have u1 : gm_19 (71 + 48 * g) 8 s = some u := u1
      have tm := (u4.2.2.2.2.2.2.1 u5).2
      have kc : KC s u := KG_KC (ga_of hg) u3
      have ru := RV_KC kc r
      have eu : u.1 216 = f := ru.1
      obtain ⟨p, w, p1, p2, p3, p4, p5, p6⟩ := sp_187f (s := u) (R := R) (C := C) (g := g) (by rw [eu]; exact v.1) (by rw [eu]; exact h7) hg ru.2.2.2.2
      rw [eu] at p6
      have s2 := s2 u eu
      rw [if_pos ok, if_neg (fun q => q t1), p1, Option.bind_some, p2, Option.bind_some, sp_183 (R := 8) p4 (by omega) (show d < 9 by omega), Option.bind_some] at s2
      rw [if_neg (fun q => q t1), u1, Option.bind_some, sp_76 (ga_of hg).2.2.2.2.2.1 (show d < 9 by omega), Option.bind_some] at s1
      have e : sg (fun x => w.2 224 (9 * x + d)) 8 = sg (fun x => u.1 (71 + 48 * g + 21 + 8) (9 * x + d)) 8 := sg_eq fun x hx => by
        rw [p6 x d hx (by omega), ((tm x hx).2.2 d (by omega)).2.2.2]
        rfl
      have s2 : gm_188 g d t u = some (sg (fun x => w.2 224 (9 * x + d)) 8, w) := s2
      rw [e] at s2
      exact ⟨_, u, w, s1, s2, q_inv kc u2 r v p3⟩
    · obtain ⟨D, u, u1, u2, u3, u4, u5, u6⟩ := CV_ready (w := 2) (by omega) v.1 h7 hg c
      have u1 : gm_19 (71 + 48 * g) 2 s = some u := u1
      have tm := (u4.2.2.2.2.1 u5).2.1
      have kc : KC s u := KG_KC (ga_of hg) u3
      have ru := RV_KC kc r
      have eu : u.1 216 = f := ru.1
      obtain ⟨p, w, p1, p2, p3, p4, p5, p6, p7⟩ := sp_181f (s := u) (R := R) (C := C) (g := g) (by rw [eu]; exact v.1) (by rw [eu]; exact h7) hg ru.2.2.2.2
      have wg : ∀ x y, x < 8 → y < 9 → w.2 224 (9 * x + y) = GV f R C g x y := fun x y hx hy => by
        have := ((p7 x hx).2.2 y hy).2
        rw [eu] at this
        exact this
      have t1' := sl_101 (a := 71 + 48 * g) v.1 u2.1 (ga_of hg).2.2.2.1 hd (fun x y hx hy => ((tm x hx).2.2 y hy).2.2.2) 100000 0 (by omega) (by omega)
      have t1' : gm_101_79 100000 d (71 + 48 * g) 0 0 u = _ := t1'
      have t2 := sl_188 v.1 ((KR_216 p4).trans eu) p5 hd wg 100000 0 (by omega) (by omega)
      have t2 : gm_188_73 100000 d 0 0 w = _ := t2
      have s2 := s2 u eu
      rw [if_pos ok, if_pos t1, p1, Option.bind_some, p2, Option.bind_some, t2] at s2
      rw [if_pos t1, u1, Option.bind_some, t1'] at s1
      exact ⟨_, u, w, s1, s2, q_inv kc u2 r v (KR_w p4)⟩
  · rw [if_neg ok] at s1
    exact ⟨-1, s, s, s1, (s2 s r.1).trans (if_neg ok), h⟩
end
section
/-! QUERIES: byWay -/
def wrow (f : Nat → Int) (R C g d : Nat) (b : Bool) (y : Nat) : Int := if dsc f y = (d : Int) then SO f R C g (-1) ((y : Nat) : Int) b else 0
theorem sl_190 {f : Nat → Int} {R C g d : Nat} (M : MP f R C) (h7 : f 2 = 7) (hg : g < 3) (hd : d < 4) (b : Bool) : ∀ (n y : Nat) (s : gx_S), 8 < n + y → y ≤ 8 → s.1 216 = f → ∃ u : gx_S, gm_190_3 n g d (gb b) y s = some u ∧ u.2 = s.2 ∧ (∀ k i, k ≠ 222 → u.1 k i = s.1 k i) ∧ (∀ y', y ≤ y' → y' < 8 → u.1 222 (9 * d + y') = wrow f R C g d b y') ∧ ∀ i, ¬ (9 * d + y ≤ i ∧ i < 9 * d + 8) → u.1 222 i = s.1 222 i := by
  intro n
  induction n with
  | zero => intro y s h; omega
  | succ n ih =>
    intro y s h hy ef
    rw [gm_190_3, if_pos (by omega)]
    by_cases q : y = 8
    · rw [if_pos (by omega)]
      exact ⟨s, rfl, rfl, fun _ _ _ => rfl, fun y' h1 h2 => by omega, fun _ _ => rfl⟩
    · have ce : ((y : Int) + 1) = ((y + 1 : Nat) : Int) := rfl
      have i1 : ((9 * (d : Int) + (y : Int))).toNat = 9 * d + y := by omega
      have dr := dsc_r M (show y < 9 by omega)
      rw [if_neg (by omega), sp_160, Option.bind_some]
      show ∃ u : gx_S, ((gm_186 y s).bind fun q6 => if (-2147483648 ≤ q6.1 ∧ q6.1 ≤ 2147483647) then (if (-2147483648 ≤ (d : Int) ∧ (d : Int) ≤ 2147483647) then (if ¬ q6.1 = (d : Int) then gm_190_43 (gm_190_3 n) g d (gb b) y (9 * (d : Int) + (y : Int)) 0 q6.2 else ((gm_157 g (-1) y (gb b) q6.2).bind fun q11 => gm_190_43 (gm_190_3 n) g d (gb b) y (9 * (d : Int) + (y : Int)) q11.1 q11.2)) else none) else none) = _ ∧ _
      rw [sp_186 ef (show y < 9 by omega), Option.bind_some, if_pos (by omega), if_pos (by omega)]
      have st : (if ¬ dsc f y = (d : Int) then gm_190_43 (gm_190_3 n) g d (gb b) y (9 * (d : Int) + (y : Int)) 0 s else ((gm_157 g (-1) y (gb b) s).bind fun q11 => gm_190_43 (gm_190_3 n) g d (gb b) y (9 * (d : Int) + (y : Int)) q11.1 q11.2)) = gm_190_3 n g d (gb b) ((y + 1 : Nat) : Int) (gw1 s 222 (9 * d + y) (wrow f R C g d b y)) := by
        have tail : ∀ v : Int, gm_190_43 (gm_190_3 n) g d (gb b) y (9 * (d : Int) + (y : Int)) v s = gm_190_3 n g d (gb b) ((y + 1 : Nat) : Int) (gw1 s 222 (9 * d + y) v) := fun v => by
          unfold gm_190_43
          rw [if_pos (by omega), i1, ce]
        unfold wrow
        by_cases z : dsc f y = (d : Int)
        · have c57 := sp_157g (s := s) (R := R) (C := C) (by rw [ef]; exact M) (by rw [ef]; exact h7) (-1) (y : Int) b hg (by omega) (by omega)
          rw [ef] at c57
          rw [if_neg (fun t => t z), if_pos z, c57, Option.bind_some]
          exact tail _
        · rw [if_pos z, if_neg z]
          exact tail 0
      show ∃ u : gx_S, (if ¬ dsc f y = (d : Int) then gm_190_43 (gm_190_3 n) g d (gb b) y (9 * (d : Int) + (y : Int)) 0 s else ((gm_157 g (-1) y (gb b) s).bind fun q11 => gm_190_43 (gm_190_3 n) g d (gb b) y (9 * (d : Int) + (y : Int)) q11.1 q11.2)) = _ ∧ _
      rw [st]
      obtain ⟨u, u1, u2, u3, u4, u5⟩ := ih (y + 1) (gw1 s 222 (9 * d + y) (wrow f R C g d b y)) (by omega) (by omega) (by
        funext i
        rw [gw1_1, if_neg (by omega), ef])
      refine ⟨u, u1, u2, fun k i h1 => by rw [u3 k i h1, gw1_1, if_neg (fun x => h1 x.1)], fun y' h1 h2 => ?_, fun i h1 => ?_⟩
      · by_cases e : y' = y
        · rw [e, u5 _ (by omega), gw1_1, if_pos ⟨rfl, rfl⟩]
        · exact u4 y' (by omega) h2
      · rw [u5 i (by omega), gw1_1, if_neg (by omega)]
theorem wrow_r {f : Nat → Int} {R C g d : Nat} (M : MP f R C) (h7 : f 2 = 7) (hg : g < 3) (b : Bool) (y : Nat) : 0 ≤ wrow f R C g d b y ∧ wrow f R C g d b y ≤ 864 := by
  unfold wrow
  split
  · exact SO_r M h7 hg (-1) y b
  · omega
theorem sl_189_70 {f P : Nat → Int} {R C g : Nat} {z : Int} (M : MP f R C) (h7 : f 2 = 7) (hg : g < 3) (hP : ∀ x, x < 4 → 0 ≤ P x ∧ P x ≤ 100000000) : ∀ (n d : Nat) (s : gx_S), 4 < n + d → d ≤ 4 → s.1 216 = f → s.1 215 18 = 8 → (∀ x, x < 4 → s.1 238 x = P x) → ∃ u : gx_S, gm_189_70 n g z d s = ((gm_173 u).bind fun q4 => (gm_183 z q4).bind fun q6 => some (q6.1, q6.2)) ∧ (∀ k i, k ≠ 222 → k ≠ 223 → u.1 k i = s.1 k i) ∧ (∀ k i, k ≠ 221 → u.2 k i = s.2 k i) ∧ (∀ x', d ≤ x' → x' < 4 → u.2 221 x' = P x' ∧ ∀ y, y < 8 → u.1 222 (9 * x' + y) = Awy f R C g x' y) ∧ (∀ i, i < d → u.2 221 i = s.2 221 i) ∧ ∀ i, i < 9 * d → u.1 222 i = s.1 222 i := by
  intro n
  induction n with
  | zero => intro d s h; omega
  | succ n ih =>
    intro d s h hd ef e18 hl
    rw [gm_189_70, if_pos (by omega)]
    by_cases q : d = 4
    · rw [if_pos (by omega)]
      exact ⟨s, rfl, fun _ _ _ _ => rfl, fun _ _ _ => rfl, fun x' h1 h2 => by omega, fun _ _ => rfl, fun _ _ => rfl⟩
    · have i5 : ((d : Int)).toNat = d := by omega
      have ce : ((d : Int) + 1) = ((d + 1 : Nat) : Int) := rfl
      have lr := hP d (by omega)
      rw [if_neg (by omega), if_pos (by omega), i5, hl d (by omega), if_pos (by omega), if_pos (by omega)]
      obtain ⟨a, ha⟩ : ∃ a, a = gw2 s 221 d (P d) := ⟨_, rfl⟩
      have a1 : ∀ k i, a.1 k i = s.1 k i := fun k i => by rw [ha]; rfl
      have ea : a.1 216 = f := by
        funext i
        rw [a1, ef]
      obtain ⟨b, b1, b2, b3, b4, b5⟩ := sl_190 M h7 hg (show d < 4 by omega) false 100000 0 a (by omega) (by omega) ea
      have b1 : gm_190 g d 0 a = some b := b1
      have b18 : b.1 215 18 = ((8 : Nat) : Int) := by rw [b3 215 18 (by decide), a1]; exact e18
      have sm : sg (fun c => b.1 222 (9 * d + c)) 8 = sg (fun y => wrow f R C g d false y) 8 := sg_eq fun y hy => b4 y (by omega) hy
      have smr : 0 ≤ sg (fun y => wrow f R C g d false y) 8 ∧ sg (fun y => wrow f R C g d false y) 8 ≤ 6912 := by
        refine ⟨sg_nn fun y _ => (wrow_r M h7 hg false y).1, ?_⟩
        exact Int.le_trans (sg_le (g := fun _ => 864) fun y _ => (wrow_r M h7 hg false y).2) (by decide)
      have c61 := sp_161 (s := b) (r := d) (m := 8) (by omega) (by omega) b18
      rw [sm] at c61
      obtain ⟨e, he⟩ : ∃ e, e = gw1 b 223 d (sg (fun y => wrow f R C g d false y) 8) := ⟨_, rfl⟩
      rw [← he] at c61
      have e1 : ∀ k i, k ≠ 223 → e.1 k i = b.1 k i := fun k i q => by rw [he, gw1_1, if_neg (by omega)]
      rw [← ha, b1, Option.bind_some, c61, Option.bind_some]
      show ∃ u : gx_S, (if (-2147483648 ≤ sg (fun y => wrow f R C g d false y) 8 ∧ sg (fun y => wrow f R C g d false y) 8 ≤ 2147483647) then (if ¬ sg (fun y => wrow f R C g d false y) 8 = 0 then gm_189_110 (gm_189_70 n) g z d e else ((gm_190 g d 1 e).bind fun q21 => gm_189_110 (gm_189_70 n) g z d q21)) else none) = _ ∧ _
      rw [if_pos (by omega)]
      -- the row as it is laid in the end
      have row : ∃ t : gx_S, (if ¬ sg (fun y => wrow f R C g d false y) 8 = 0 then gm_189_110 (gm_189_70 n) g z d e else ((gm_190 g d 1 e).bind fun q21 => gm_189_110 (gm_189_70 n) g z d q21)) = gm_189_70 n g z ((d + 1 : Nat) : Int) t ∧ t.2 = e.2 ∧ (∀ k i, k ≠ 222 → t.1 k i = e.1 k i) ∧ (∀ y, y < 8 → t.1 222 (9 * d + y) = Awy f R C g d y) ∧ ∀ i, ¬ (9 * d ≤ i ∧ i < 9 * d + 8) → t.1 222 i = e.1 222 i := by
        have aw : ∀ y, y < 8 → Awy f R C g d y = wrow f R C g d (decide (sg (fun y => wrow f R C g d false y) 8 = 0)) y := fun y hy => by
          unfold Awy
          by_cases z : dsc f y = (d : Int)
          · rw [if_pos ⟨hy, z⟩]
            show SO f R C g (-1) y (decide (sg (fun y => wrow f R C g d false y) 8 = 0)) = _
            show _ = (if dsc f y = (d : Int) then SO f R C g (-1) ((y : Nat) : Int) (decide (sg (fun y => wrow f R C g d false y) 8 = 0)) else 0)
            rw [if_pos z]
          · rw [if_neg (fun t => z t.2)]
            show _ = (if dsc f y = (d : Int) then SO f R C g (-1) ((y : Nat) : Int) (decide (sg (fun y => wrow f R C g d false y) 8 = 0)) else 0)
            rw [if_neg z]
        by_cases z0 : sg (fun y => wrow f R C g d false y) 8 = 0
        · have ee : e.1 216 = f := by
            funext i
            rw [e1 216 i (by decide), b3 216 i (by decide), ea]
          obtain ⟨t, t1, t2, t3, t4, t5⟩ := sl_190 M h7 hg (show d < 4 by omega) true 100000 0 e (by omega) (by omega) ee
          have t1 : gm_190 g d 1 e = some t := t1
          rw [if_neg (fun t => t z0), t1, Option.bind_some]
          refine ⟨t, rfl, t2, t3, fun y hy => ?_, fun i hi => t5 i (by omega)⟩
          rw [t4 y (by omega) hy, aw y hy, decide_eq_true z0]
        · rw [if_pos z0]
          refine ⟨e, rfl, rfl, fun _ _ _ => rfl, fun y hy => ?_, fun _ _ => rfl⟩
          rw [e1 222 _ (by decide), b4 y (by omega) hy, aw y hy, decide_eq_false z0]
      obtain ⟨t, t1, t2, t3, t4, t5⟩ := row
      have tk : ∀ k i, k ≠ 222 → k ≠ 223 → t.1 k i = s.1 k i := fun k i h1 h2 => by rw [t3 k i h1, e1 k i h2, b3 k i h1, a1]
      have tl : ∀ k i, t.2 k i = a.2 k i := fun k i => by rw [t2, he, gw1_2, b2]
      rw [t1]
      obtain ⟨u, u1, u2, u3, u4, u5, u6⟩ := ih (d + 1) t (by omega) (by omega) (by
        funext i
        rw [tk 216 i (by decide) (by decide), ef]) (by rw [tk 215 18 (by decide) (by decide)]; exact e18) (fun x hx => by rw [tk 238 x (by decide) (by decide)]; exact hl x hx)
      refine ⟨u, u1, fun k i h1 h2 => (u2 k i h1 h2).trans (tk k i h1 h2), fun k i h1 => ?_, fun x' h1 h2 => ?_, fun i h1 => ?_, fun i h1 => ?_⟩
      · rw [u3 k i h1, tl, ha, gw2_2, if_neg (fun x => h1 x.1)]
      · by_cases e' : x' = d
        · rw [e']
          refine ⟨?_, fun y hy => ?_⟩
          · rw [u5 d (by omega), tl, ha, gw2_2, if_pos ⟨rfl, rfl⟩]
          · rw [u6 _ (by omega), t4 y hy]
        · exact u4 x' (by omega) h2
      · rw [u5 i (by omega), tl, ha, gw2_2, if_neg (by omega)]
      · rw [u6 i (by omega), t5 i (by omega), e1 222 i (by decide), b5 i (by omega), a1]
theorem sl_189_39 {g : Nat} {z : Int} : ∀ (n x : Nat) (s : gx_S), 4 < n + x → x ≤ 4 → s.1 215 17 = 8 → ∃ u : gx_S, gm_189_39 n g z x s = ((gm_159 4 8 u).bind fun q4 => gm_189_70 100000 g z 0 q4) ∧ u.2 = s.2 ∧ (∀ k i, k ≠ 238 → u.1 k i = s.1 k i) ∧ ∀ j, u.1 238 j = if x ≤ j ∧ j < 4 then sg (fun r => s.2 224 (9 * r + j)) 8 else s.1 238 j := by
  intro n
  induction n with
  | zero => intro x s h; omega
  | succ n ih =>
    intro x s h hx e17
    rw [gm_189_39, if_pos (by omega)]
    by_cases q : x = 4
    · rw [if_pos (by omega)]
      exact ⟨s, rfl, rfl, fun _ _ _ => rfl, fun j => by rw [if_neg (by omega)]⟩
    · have ce : ((x : Int) + 1) = ((x + 1 : Nat) : Int) := rfl
      have i5 : ((x : Int)).toNat = x := by omega
      rw [if_neg (by omega), sp_183 (R := 8) e17 (by omega) (show x < 9 by omega), Option.bind_some, if_pos (by omega), i5, ce]
      obtain ⟨u, u1, u2, u3, u4⟩ := ih (x + 1) (gw1 s 238 x (sg (fun r => s.2 224 (9 * r + x)) 8)) (by omega) (by omega) (by rw [gw1_1, if_neg (by omega)]; exact e17)
      refine ⟨u, u1, u2, fun k i h1 => by rw [u3 k i h1, gw1_1, if_neg (fun x => h1 x.1)], fun j => ?_⟩
      rw [u4, gw1_1]
      by_cases y : j = x
      · rw [if_neg (by omega), if_pos ⟨rfl, y⟩, if_pos (by omega), y]
      · by_cases y2 : x + 1 ≤ j ∧ j < 4
        · rw [if_pos y2, if_pos (show x ≤ j ∧ j < 4 by omega)]
          rfl
        · rw [if_neg y2, if_neg (fun t => y t.2), if_neg (show ¬ (x ≤ j ∧ j < 4) by omega)]
end
section
/-! QUERIES: byWay, whole -/
theorem KRw_of2 {s u : gx_S} (h1 : ∀ k j, k ≠ 222 → k ≠ 223 → u.1 k j = s.1 k j) (h2 : ∀ k j, k ≠ 221 → u.2 k j = s.2 k j) : KRw s u := ⟨fun k j q => h1 k j (by omega) (by omega), fun k j q => h2 k j (by omega), fun S => ⟨fun j hj => by rw [h1 232 j (by decide) (by decide), h1 233 j (by decide) (by decide), h1 234 j (by decide) (by decide), h2 225 j (by decide)]; exact S.1 j hj, fun c hc => by rw [h1 235 c (by decide) (by decide), h2 229 c (by decide), h2 230 c (by decide), h2 227 c (by decide), h2 228 c (by decide)]; exact S.2.1 c hc, fun k hk => by rw [h2 231 k (by decide)]; exact S.2.2 k hk⟩⟩
theorem sg_48 (F : Nat → Int) (h : ∀ x, 4 ≤ x → x < 8 → F x = 0) : sg F 8 = sg F 4 := by
  have e : sg F 8 = sg F 4 + F 4 + F 5 + F 6 + F 7 := rfl
  rw [e, h 4 (by omega) (by omega), h 5 (by omega) (by omega), h 6 (by omega) (by omega), h 7 (by omega) (by omega)]
  omega
theorem inv_byWay {s : gx_S} (h : INV s) {x z : Int} (hx : i32 x) (hz : i32 z) : two s (gm_103 x z) (gm_189 x z) := by
  obtain ⟨f, R, C, n, pf, L, tb, c, r, v⟩ := id h
  have hx' := hx
  have hz' := hz
  unfold i32 at hx' hz'
  have e6 : s.1 1 6 = f 2 := c.1.2.2.1
  have c57 := sp_57 (s := s) (a := 1) (by decide +kernel) (by rw [e6]; exact v.1.2.1)
  rw [e6] at c57
  have c150 : ∀ t : gx_S, t.1 216 = f → gm_150 t = some (decide (f 2 = 7), t) := fun t et => by
    have := sp_150 (s := t) (by rw [et]; exact v.1.2.1)
    rw [et] at this
    exact this
  have s1 : gm_103 x z s = if (0 ≤ x ∧ x < 3) ∧ (0 ≤ z ∧ z < 8) ∧ f 2 = 7 then (if 0 ≤ x ∧ x < 3 then ((some (fx_rf 70 (x).toNat)).bind fun v27 => (gm_19 v27 16 s).bind fun q32 => (gm_76 (v27 + 30) z q32).bind fun q34 => some (q34.1, q34.2)) else none) else some (-1, s) := by
    unfold gm_103
    rw [sp_114 s hx, Option.bind_some]
    by_cases a : 0 ≤ x ∧ x < 3
    · rw [if_neg (fun q => (gbD s).mp q a)]
      show ((gm_115 z s).bind _) = _
      rw [sp_115 s hz, Option.bind_some]
      by_cases b : 0 ≤ z ∧ z < 8
      · rw [if_neg (fun q => (gbD s).mp q b)]
        show ((gm_57 1 s).bind _) = _
        rw [c57, Option.bind_some]
        by_cases h7 : f 2 = 7
        · rw [if_pos (fun q => (gbD s).mp q h7), if_pos (show (0 ≤ x ∧ x < 3) ∧ (0 ≤ z ∧ z < 8) ∧ f 2 = 7 from ⟨a, b, h7⟩)]
        · rw [if_neg (fun q => q ((gbD s).mpr h7)), if_neg (show ¬ ((0 ≤ x ∧ x < 3) ∧ (0 ≤ z ∧ z < 8) ∧ f 2 = 7) from fun q => h7 q.2.2)]
      · rw [if_pos ((gbD s).mpr b), if_neg (show ¬ ((0 ≤ x ∧ x < 3) ∧ (0 ≤ z ∧ z < 8) ∧ f 2 = 7) from fun q => b q.2.1)]
    · rw [if_pos ((gbD s).mpr a), if_neg (show ¬ ((0 ≤ x ∧ x < 3) ∧ (0 ≤ z ∧ z < 8) ∧ f 2 = 7) from fun q => a q.1)]
  have s2 : ∀ y : gx_S, y.1 216 = f → gm_189 x z y = if (0 ≤ x ∧ x < 3) ∧ (0 ≤ z ∧ z < 8) ∧ f 2 = 7 then ((gm_187 x y).bind fun q56 => (gm_173 q56).bind fun q58 => gm_189_39 100000 x z 0 q58) else some (-1, y) := fun y ey => by
    unfold gm_189
    rw [c150 y ey, Option.bind_some]
    by_cases h7 : f 2 = 7
    · rw [if_neg (fun q => (gbD s).mp q h7)]
      show ((gm_148 x y).bind _) = _
      rw [sp_148 y hx, Option.bind_some]
      by_cases a : 0 ≤ x ∧ x ≤ 2
      · rw [if_neg (fun q => (gbD s).mp q a), if_pos hz', in_ y hz (by omega) (by omega), Option.bind_some]
        by_cases b : 0 ≤ z ∧ z ≤ 7
        · rw [if_pos (fun q => (gbD s).mp q b), if_pos (show (0 ≤ x ∧ x < 3) ∧ (0 ≤ z ∧ z < 8) ∧ f 2 = 7 by omega)]
        · rw [if_neg (fun q => q ((gbD s).mpr b)), if_neg (show ¬ ((0 ≤ x ∧ x < 3) ∧ (0 ≤ z ∧ z < 8) ∧ f 2 = 7) by omega)]
      · rw [if_pos ((gbD s).mpr a), if_neg (show ¬ ((0 ≤ x ∧ x < 3) ∧ (0 ≤ z ∧ z < 8) ∧ f 2 = 7) by omega)]
    · rw [if_pos ((gbD s).mpr h7), if_neg (show ¬ ((0 ≤ x ∧ x < 3) ∧ (0 ≤ z ∧ z < 8) ∧ f 2 = 7) from fun q => h7 q.2.2)]
  by_cases ok : (0 ≤ x ∧ x < 3) ∧ (0 ≤ z ∧ z < 8) ∧ f 2 = 7
  · obtain ⟨a, b, h7⟩ := id ok
    obtain ⟨g, rfl⟩ : ∃ g : Nat, x = g := ⟨x.toNat, by omega⟩
    obtain ⟨z, rfl⟩ : ∃ z' : Nat, z = z' := ⟨z.toNat, by omega⟩
    have hg : g < 3 := by omega
    obtain ⟨D, u, u1, u2, u3, u4, u5, u6⟩ := CV_ready (w := 16) (by omega) v.1 h7 hg c
    have u1 : gm_19 (71 + 48 * g) 16 s = some u := u1
    have tm := u4.2.2.2.2.2.2.2.1 u5
    have kc : KC s u := KG_KC (ga_of hg) u3
    have ru := RV_KC kc r
    have eu : u.1 216 = f := ru.1
    obtain ⟨p, w, p1, p2, p3, p4, p5, p6⟩ := sp_187f (s := u) (R := R) (C := C) (g := g) (by rw [eu]; exact v.1) (by rw [eu]; exact h7) hg ru.2.2.2.2
    rw [eu] at p6
    obtain ⟨A1, A2, A3⟩ := PA_wy v.1 h7 hg
    obtain ⟨y, y1, y2, y3, y4⟩ := sl_189_39 (g := g) (z := (z : Int)) 100000 0 w (by omega) (by omega) p4
    have y1 : gm_189_39 100000 g z 0 w = _ := y1
    have yK : KRw w y := KRw_of (fun k j q => y3 k j (by omega)) fun k j _ => by rw [y2]
    have Ky := KRw_tr p3 yK
    obtain ⟨d, d1, d2, d3, d4, d5, d6, d7⟩ := KR_159 y 4 8
    have Kd := KRw_tr Ky (KR_w d2)
    have ed : d.1 216 = f := (KRw_216 Kd).trans eu
    have d38 : ∀ x, x < 4 → d.1 238 x = Pwy f R C g x := fun x hx => by
      rw [d6 238 x (by decide) (by decide), y4, if_pos (by omega)]
      unfold Pwy
      rw [if_pos hx]
      exact sg_eq fun q hq => p6 q x hq (by omega)
    obtain ⟨e, e1, e2, e3, e4, e5, e6'⟩ := sl_189_70 (z := (z : Int)) v.1 h7 hg (fun x hx => A1.1 x (by omega)) 100000 0 d (by omega) (by omega) ed d4 d38
    have e1 : gm_189_70 100000 g z 0 d = _ := e1
    have Ke := KRw_tr Kd (KRw_of2 e2 e3)
    have e17 : e.1 215 17 = ((4 : Nat) : Int) := by rw [e2 215 17 (by decide) (by decide)]; exact d3
    have e18 : e.1 215 18 = ((8 : Nat) : Int) := by rw [e2 215 18 (by decide) (by decide)]; exact d4
    obtain ⟨o, o1, o2, o3, o4, o5, o6⟩ := TB_ref (md := f 3) (r := e) (R := 4) (m := 8) v.1.2.2.1 A1 (Ke.2.2 ru.2.2.2.2) e17 e18 (by omega) (by omega) (fun _ => A2) (by rw [KRw_216 Ke, eu]) (fun x hx => (e4 x (by omega) hx).1) (fun x y hx hy => (e4 x (by omega) hx).2 y hy) (fun x y hx hy hn => A3 x y hx hy hn)
    have o17 : o.1 215 17 = ((4 : Nat) : Int) := by
      rw [o3.1 215 17 (by decide) (by decide) (by decide) (by decide) (by decide)]
      exact e17
    have s2 := s2 u eu
    rw [if_pos ok, p1, Option.bind_some, p2, Option.bind_some, y1, d1, Option.bind_some, e1, o1, Option.bind_some, sp_183 (R := 4) o17 (by omega) (show z < 9 by omega), Option.bind_some] at s2
    rw [if_pos ok, if_pos a, Option.bind_some, vg_ g hg, u1, Option.bind_some, sp_76 (ga_of hg).2.2.2.2.2.2.1 (show z < 9 by omega), Option.bind_some] at s1
    have s2 : gm_189 g z u = some (sg (fun x => o.2 224 (9 * x + z)) 4, o) := s2
    have ee : sg (fun x => u.1 (71 + 48 * g + 30 + 8) (9 * x + z)) 8 = sg (fun x => o.2 224 (9 * x + z)) 4 := by
      rw [sg_48 _ fun x h1 h2 => by
        rw [((tm x h2).2.2 z (by omega)).2.2.2]
        exact o6 x z h2 (by omega) (by omega)]
      exact sg_eq fun x hx => by rw [((tm x (by omega)).2.2 z (by omega)).2.2.2, o2 x z hx (by omega)]
    rw [← ee] at s2
    exact ⟨_, u, o, s1, s2, q_inv kc u2 r v (KRw_tr Ke (KR_w (KR_rc o3 o4)))⟩
  · rw [if_neg ok] at s1
    exact ⟨-1, s, s, s1, (s2 s r.1).trans (if_neg ok), h⟩
end
section
/-! NOBODY is lost: the lives, the moved -/
/-- by remainders: where there is no amount, nobody goes -/
theorem TB_Az {P : Nat → Int} {A : Nat → Nat → Int} (h : PA P A) {x y : Nat} (hx : x < 8) (hy : y < 9) (z : A x y = 0) : TB 0 P A x y = 0 := by
  obtain ⟨v, u, v1, u1, u2, u3, u4, u5⟩ := sp_41_0 (t := 74) (by decide +kernel) (cc_tf h)
  obtain ⟨v', w1, w2, w3, w4, w5, w6⟩ := sp_70 (t := 74) (by decide +kernel) (cc_tf h)
  have ev : v' = v := Option.some.inj (w1.symm.trans v1)
  rw [ev] at w4
  have a0 : am (cc P A) 74 x y = 0 := by rw [cc_am P A hy, z]
  have f0 : af (cc P A) 74 x y = 0 := by
    unfold af
    rw [a0, Int.mul_zero]
    split
    · rfl
    · exact Int.zero_ediv _
  have r0 : ar (cc P A) 74 x y = 0 := by
    unfold ar
    rw [a0, Int.mul_zero]
    split
    · rfl
    · exact Int.zero_emod _
  obtain ⟨y1, y2, y3, y4⟩ := (w4 x hx).2.2 y hy
  have e := u3 x y hx hy
  rw [gcn_z hy _ v (by rw [y3, r0]; omega), y4, f0] at e
  unfold TB
  rw [u1]
  exact e
theorem LV_n {f : Nat → Int} {R C g x : Nat} (M : MP f R C) (hg : g < 3) (hx : x < 8) (n : ¬ 0 < NC f R C 0 x) : LV f R C g x = 0 := by
  obtain ⟨p1, p2⟩ := PA_sh M hg
  have n0 := NC_nn f R C 0 x
  have l : L0 f R C g x = 0 := if_neg n
  have a : Ash f R C g 0 x = 0 := by
    unfold Ash
    rw [if_pos ⟨rfl, hx⟩, l]
    split <;> omega
  unfold LV
  rw [l, TB_Az p1 (by omega) (by omega) a]
  rfl
theorem LV_all {f : Nat → Int} {R C g : Nat} (M : MP f R C) (hg : g < 3) : sg (LV f R C g) 8 + ASf f R C g = sg (fun z => f (5 + 9 * g + z)) 9 := by
  obtain ⟨p1, p2⟩ := PA_sh M hg
  obtain ⟨l1, l2⟩ := L0_r M hg
  obtain ⟨t1, t2⟩ := TB_0 (md := 0) (.inl rfl) p1 (fun h => absurd h (by decide))
  have e := sg_add (L0 f R C g) (fun z => TB 0 (Psh f R C g) (Ash f R C g) 0 z) 8
  have a := t2 0 (by omega)
  have d : sg (fun z => TB 0 (Psh f R C g) (Ash f R C g) 0 z) 9 = sg (fun z => TB 0 (Psh f R C g) (Ash f R C g) 0 z) 8 + TB 0 (Psh f R C g) (Ash f R C g) 0 8 := rfl
  have n8 : TB 0 (Psh f R C g) (Ash f R C g) 0 8 = 0 := TB_Az p1 (by omega) (by omega) (p2 0 8 (by omega) (by omega) (by omega))
  have q0 : Psh f R C g 0 = UN f R C g - ASf f R C g := if_pos rfl
  have eL : sg (LV f R C g) 8 = sg (fun z => L0 f R C g z + TB 0 (Psh f R C g) (Ash f R C g) 0 z) 8 := rfl
  rw [q0] at a
  by_cases s : SHr f R C
  · have as0 : ASf f R C g = 0 := if_pos s
    have ex : ∃ z : Nat, z < 8 ∧ 0 < NC f R C 0 z := Classical.byContradiction fun q => by
      have : KD f R C 0 8 = 0 := sg_0 fun z hz => by
        unfold bi
        rw [if_neg (fun t => q ⟨z, hz, t⟩)]
      have := s.2
      omega
    obtain ⟨z, hz, nz⟩ := ex
    have Ann : ∀ y, y < 9 → 0 ≤ Ash f R C g 0 y := fun y hy => (p1.2.1 0 y (by omega) hy).1
    have tot : 0 < sg (fun y => Ash f R C g 0 y) 9 := by
      by_cases w : sg (L0 f R C g) 8 = 0
      · have q := sg_at (f := fun y => Ash f R C g 0 y) (n := 9) Ann z (by omega)
        have e : Ash f R C g 0 z = NC f R C 0 z := by
          unfold Ash
          rw [if_pos ⟨rfl, hz⟩, if_pos w]
        have q : Ash f R C g 0 z ≤ sg (fun y => Ash f R C g 0 y) 9 := q
        omega
      · have e : sg (fun y => Ash f R C g 0 y) 9 = sg (L0 f R C g) 8 := by
          show sg (fun y => Ash f R C g 0 y) 8 + Ash f R C g 0 8 = _
          rw [p2 0 8 (by omega) (by omega) (by omega), Int.add_zero]
          refine sg_eq fun y hy => ?_
          unfold Ash
          rw [if_pos ⟨rfl, hy⟩, if_neg w]
        have := sg_nn (f := L0 f R C g) (n := 8) l1
        omega
    rw [if_neg (by omega)] at a
    omega
  · have as0 : ASf f R C g = UN f R C g := if_neg s
    rw [as0] at a ⊢
    have a : sg (fun z => TB 0 (Psh f R C g) (Ash f R C g) 0 z) 9 = 0 := by
      rw [a]
      split <;> omega
    omega
theorem GV_all {f : Nat → Int} {R C g : Nat} (M : MP f R C) (h7 : f 2 = 7) (hg : g < 3) : sg (fun x => sg (fun y => GV f R C g x y) 9) 8 = sg (fun z => f (5 + 9 * g + z)) 9 - ASf f R C g := by
  obtain ⟨p1, p2⟩ := PA_mv M h7 hg
  obtain ⟨t1, t2⟩ := TB_0 (md := f 3) M.2.2.1 p1 (fun _ => p2)
  have e : sg (fun x => sg (fun y => GV f R C g x y) 9) 8 = sg (LV f R C g) 8 := sg_eq fun x hx => by
    have a : sg (fun y => GV f R C g x y) 9 = if sg (fun y => PMV f R C g x y) 9 ≤ 0 then 0 else LV f R C g x := t2 x hx
    rw [a]
    by_cases z : sg (fun y => PMV f R C g x y) 9 ≤ 0
    · rw [if_pos z]
      have s : sg (fun y => PMV f R C g x y) 9 = SO f R C g x (-1) (decide (SO f R C g x (-1) false = 0)) := SO_row M h7 x _
      have r := SO_r M h7 hg x (-1) (decide (SO f R C g x (-1) false = 0))
      exact (LV_n M hg hx ((tot_0 M h7 hg).mp (by omega))).symm
    · rw [if_neg z]
  have := LV_all M hg
  omega
/-! QUERIES: count -/
theorem sp_63 {s : gx_S} {f : Nat → Int} {R C : Nat} (m : MR s 1 f R C) (M : MP f R C) (l k : Nat) (hl : l < 3) (hk : k ≤ 8) : gm_63 1 l k s = some (KD f R C l k, s) := by
  have e : ∀ (n j : Nat), k < n + j → j ≤ k → gm_63_5 n 1 l k (KD f R C l j) j s = some (KD f R C l k, s) := by
    intro n
    induction n with
    | zero => intro j h; omega
    | succ n ih =>
      intro j h hj
      rw [gm_63_5, if_pos (by omega), if_pos (by omega)]
      by_cases q : j = k
      · rw [if_pos (by omega), q]
      · have ce : ((j : Int) + 1) = ((j + 1 : Nat) : Int) := rfl
        have n1 := NC_nn f R C l j
        have hRC := RC_96 M.1.2.2.1 M.1.2.2.2
        rw [← Int.natCast_mul] at n1
        rw [if_neg (by omega), sp_62g m M l j hl (by omega), Option.bind_some]
        show (if -2147483648 ≤ NC f R C l j ∧ NC f R C l j ≤ 2147483647 then (if NC f R C l j ≤ 0 then gm_63_24 (gm_63_5 n) 1 l k (KD f R C l j) j s else gm_63_24 (gm_63_5 n) 1 l k (KD f R C l j + 1) j s) else none) = _
        rw [if_pos (by omega)]
        unfold gm_63_24
        have st : KD f R C l (j + 1) = KD f R C l j + bi (0 < NC f R C l j) := rfl
        by_cases z : NC f R C l j ≤ 0
        · have b : bi (0 < NC f R C l j) = 0 := if_neg (by omega)
          rw [b, Int.add_zero] at st
          rw [if_pos z, ce, ← st]
          exact ih (j + 1) (by omega) (by omega)
        · have b : bi (0 < NC f R C l j) = 1 := if_pos (by omega)
          rw [b] at st
          rw [if_neg z, ce, ← st]
          exact ih (j + 1) (by omega) (by omega)
  unfold gm_63
  rw [if_pos (by decide +kernel)]
  exact e 100000 0 (by omega) (by omega)
end
