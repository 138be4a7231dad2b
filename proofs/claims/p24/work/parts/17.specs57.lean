section
/-! THE CLASS: tables filled from the cells -/
def co (f : Nat → Int) (C l k : Nat) : Nat := (f (52 + 96 * l + 12 * (k / C) + k % C)).toNat
def wt (f : Nat → Int) (C g k : Nat) : Int := f (32 + 4 * g + co f C 2 k)
theorem co_s {f : Nat → Int} {R C k : Nat} (M : MP f R C) (h7 : f 2 = 7) (hk : k < R * C) : (f (52 + 96 * 0 + 12 * (k / C) + k % C) = (co f C 0 k : Int) ∧ co f C 0 k ≤ 8) ∧ (f (52 + 96 * 1 + 12 * (k / C) + k % C) = (co f C 1 k : Int) ∧ co f C 1 k ≤ 8) ∧ (f (52 + 96 * 2 + 12 * (k / C) + k % C) = (co f C 2 k : Int) ∧ co f C 2 k ≤ 3) := by
  have m8 := M.2.2.2.2.2.2.2.1
  have a0 := m8 0 (by omega) (by rw [h7]; rfl) k hk
  have a1 := m8 1 (by omega) (by rw [h7]; rfl) k hk
  have a2 := m8 2 (by omega) (by rw [h7]; rfl) k hk
  rw [if_neg (by omega)] at a0 a1
  rw [if_pos rfl] at a2
  unfold co
  omega
theorem wt_b {f : Nat → Int} {R C g k : Nat} (M : MP f R C) (h7 : f 2 = 7) (hg : g < 3) (hk : k < R * C) : 0 ≤ wt f C g k ∧ wt f C g k ≤ 9 := by
  have c := (co_s M h7 hk).2.2.2
  unfold wt
  rw [show 32 + 4 * g + co f C 2 k = 32 + (4 * g + co f C 2 k) by omega]
  exact M.2.2.2.2.2.1 _ (by omega)
theorem sp_60g {s : gx_S} {f : Nat → Int} {R C k : Nat} (m : MR s 1 f R C) (M : MP f R C) (h7 : f 2 = 7) (hk : k < R * C) : gm_60 1 0 k s = some ((co f C 0 k : Int), s) ∧ gm_60 1 1 k s = some ((co f C 1 k : Int), s) ∧ gm_60 1 2 k s = some ((co f C 2 k : Int), s) := by
  have hRC := RC_96 M.1.2.2.1 M.1.2.2.2
  obtain ⟨c0, c1, c2⟩ := co_s M h7 hk
  have m9 := m.2.2.2.2.2.2.2.2
  refine ⟨?_, ?_, ?_⟩
  · have c : gm_60 1 0 k s = _ := sp_60 (s := s) (a := 1) (by decide +kernel) 0 k (by omega) (by omega)
    rw [c, m9 0 (by omega) (by rw [h7]; rfl) k hk, c0.1]
  · have c : gm_60 1 1 k s = _ := sp_60 (s := s) (a := 1) (by decide +kernel) 1 k (by omega) (by omega)
    rw [c, m9 1 (by omega) (by rw [h7]; rfl) k hk, c1.1]
  · have c : gm_60 1 2 k s = _ := sp_60 (s := s) (a := 1) (by decide +kernel) 2 k (by omega) (by omega)
    rw [c, m9 2 (by omega) (by rw [h7]; rfl) k hk, c2.1]
theorem sp_61g {s : gx_S} {f : Nat → Int} {R C g k : Nat} (m : MR s 1 f R C) (M : MP f R C) (h7 : f 2 = 7) (hg : g < 3) (hk : k < R * C) : gm_61 1 g k s = some (wt f C g k, s) := by
  have c := (co_s M h7 hk).2.2.2
  unfold gm_61
  rw [if_pos (by decide +kernel), (sp_60g m M h7 hk).2.2, Option.bind_some, if_pos (by omega)]
  have i : ((((g : Int) * 4) + ((co f C 2 k : Int), s).1)).toNat = 4 * g + co f C 2 k := by
    show ((g : Int) * 4 + (co f C 2 k : Int)).toNat = _
    omega
  rw [i]
  have e := m.2.2.2.2.2.2.1 (4 * g + co f C 2 k) (by omega)
  show some (s.1 (1 + 3) (4 * g + co f C 2 k), s) = _
  rw [e]
  unfold wt
  rw [show 32 + (4 * g + co f C 2 k) = 32 + 4 * g + co f C 2 k by omega]
theorem sg_shift (F : Nat → Int) : ∀ (n k : Nat), sg (fun i => F (k + i)) (n + 1) = F k + sg (fun i => F (k + 1 + i)) n
  | 0, k => by
    show 0 + F (k + 0) = F k + 0
    rw [Nat.add_zero]
    omega
  | n + 1, k => by
    have a := sg_shift F n k
    show sg (fun i => F (k + i)) (n + 1) + F (k + (n + 1)) = F k + (sg (fun i => F (k + 1 + i)) n + F (k + 1 + n))
    rw [a, show k + (n + 1) = k + 1 + n by omega]
    omega
/-- a cell's share of an entry -/
def pz (K : Nat → Bool) (X Y : Nat → Nat) (w : Nat → Int) (x y k : Nat) : Int := if K k = true ∧ X k = x ∧ Y k = y then w k else 0
/-- a table has been added to -/
def AC (t : Nat) (s u : gx_S) (F4 F5 : Nat → Nat → Int) : Prop := u.2 = s.2 ∧ (∀ k i, k ≠ t + 4 → k ≠ t + 5 → u.1 k i = s.1 k i) ∧ ∀ x y, x < 8 → y < 9 → u.1 (t + 4) (9 * x + y) = s.1 (t + 4) (9 * x + y) + F4 x y ∧ u.1 (t + 5) (9 * x + y) = s.1 (t + 5) (9 * x + y) + F5 x y
theorem AC_0 (t : Nat) (s : gx_S) (F4 F5 : Nat → Nat → Nat → Int) : AC t s s (fun x y => sg (F4 x y) 0) (fun x y => sg (F5 x y) 0) := ⟨rfl, fun _ _ _ _ => rfl, fun x y _ _ => ⟨(Int.add_zero _).symm, (Int.add_zero _).symm⟩⟩
theorem AC_skip {t k r : Nat} {s u : gx_S} {K : Nat → Bool} {X Y : Nat → Nat} {w : Nat → Int} (hK : K k = false) (h : AC t s u (fun x y => sg (fun i => pz K X Y w x y (k + 1 + i)) r) (fun x y => sg (fun i => pz K X Y (fun _ => 1) x y (k + 1 + i)) r)) : AC t s u (fun x y => sg (fun i => pz K X Y w x y (k + i)) (r + 1)) (fun x y => sg (fun i => pz K X Y (fun _ => 1) x y (k + i)) (r + 1)) := by
  have z : ∀ (v : Nat → Int) x y, pz K X Y v x y k = 0 := fun v x y => if_neg fun h => by
    rw [hK] at h
    exact Bool.noConfusion h.1
  obtain ⟨h1, h2, h3⟩ := h
  refine ⟨h1, h2, fun x y hx hy => ?_⟩
  obtain ⟨a, b⟩ := h3 x y hx hy
  have a : u.1 (t + 4) (9 * x + y) = s.1 (t + 4) (9 * x + y) + sg (fun i => pz K X Y w x y (k + 1 + i)) r := a
  have b : u.1 (t + 5) (9 * x + y) = s.1 (t + 5) (9 * x + y) + sg (fun i => pz K X Y (fun _ => 1) x y (k + 1 + i)) r := b
  show u.1 (t + 4) (9 * x + y) = s.1 (t + 4) (9 * x + y) + sg (fun i => pz K X Y w x y (k + i)) (r + 1) ∧ u.1 (t + 5) (9 * x + y) = s.1 (t + 5) (9 * x + y) + sg (fun i => pz K X Y (fun _ => 1) x y (k + i)) (r + 1)
  rw [sg_shift (pz K X Y w x y), sg_shift (pz K X Y (fun _ => 1) x y), z, z, a, b]
  omega
theorem AC_add {t k r : Nat} {s u : gx_S} {K : Nat → Bool} {X Y : Nat → Nat} {w : Nat → Int} (hK : K k = true) (hX : X k < 8) (hY : Y k < 9) (h : AC t (adt s t (X k) (Y k) (w k) 1) u (fun x y => sg (fun i => pz K X Y w x y (k + 1 + i)) r) (fun x y => sg (fun i => pz K X Y (fun _ => 1) x y (k + 1 + i)) r)) : AC t s u (fun x y => sg (fun i => pz K X Y w x y (k + i)) (r + 1)) (fun x y => sg (fun i => pz K X Y (fun _ => 1) x y (k + i)) (r + 1)) := by
  obtain ⟨h1, h2, h3⟩ := h
  refine ⟨h1, fun k' i q1 q2 => (h2 k' i q1 q2).trans (adt_o _ _ _ _ _ _ _ _ q1 q2), fun x y hx hy => ?_⟩
  obtain ⟨a, b⟩ := h3 x y hx hy
  have a : u.1 (t + 4) (9 * x + y) = (adt s t (X k) (Y k) (w k) 1).1 (t + 4) (9 * x + y) + sg (fun i => pz K X Y w x y (k + 1 + i)) r := a
  have b : u.1 (t + 5) (9 * x + y) = (adt s t (X k) (Y k) (w k) 1).1 (t + 5) (9 * x + y) + sg (fun i => pz K X Y (fun _ => 1) x y (k + 1 + i)) r := b
  show u.1 (t + 4) (9 * x + y) = s.1 (t + 4) (9 * x + y) + sg (fun i => pz K X Y w x y (k + i)) (r + 1) ∧ u.1 (t + 5) (9 * x + y) = s.1 (t + 5) (9 * x + y) + sg (fun i => pz K X Y (fun _ => 1) x y (k + i)) (r + 1)
  rw [sg_shift (pz K X Y w x y), sg_shift (pz K X Y (fun _ => 1) x y), a, b, adt_4, adt_5]
  unfold pz
  by_cases q : X k = x ∧ Y k = y
  · rw [if_pos (show 9 * x + y = 9 * X k + Y k by omega), if_pos (show 9 * x + y = 9 * X k + Y k by omega), if_pos ⟨hK, q⟩, if_pos ⟨hK, q⟩]
    show _ ∧ s.1 (t + 5) (9 * x + y) + 1 + _ = s.1 (t + 5) (9 * x + y) + (1 + _)
    omega
  · rw [if_neg (show ¬ 9 * x + y = 9 * X k + Y k by omega), if_neg (show ¬ 9 * x + y = 9 * X k + Y k by omega), if_neg (fun h => q h.2), if_neg (fun h => q h.2)]
    omega
theorem MR_adt {s : gx_S} {f : Nat → Int} {R C t x y : Nat} {v w : Int} (ht : 5 < t) (m : MR s 1 f R C) : MR (adt s t x y v w) 1 f R C := MR_o (fun k j h1 h2 => adt_o _ _ _ _ _ _ _ _ (by omega) (by omega)) m
theorem sl_23 {f : Nat → Int} {R C g a : Nat} (M : MP f R C) (h7 : f 2 = 7) (hg : g < 3) (h71 : 71 ≤ a) (ht : fx_oc (a + 3) 7 = true) : ∀ (r k n : Nat) (s : gx_S), k + r = R * C → r < n → MR s 1 f R C → s.1 a 9 = g → ∃ u : gx_S, gm_23_35 n a ((R * C : Nat) : Int) k s = some u ∧ AC (a + 3) s u (fun x y => sg (fun i => pz (fun k => decide (co f C 0 k < 8)) (co f C 0) (co f C 1) (wt f C g) x y (k + i)) r) (fun x y => sg (fun i => pz (fun k => decide (co f C 0 k < 8)) (co f C 0) (co f C 1) (fun _ => 1) x y (k + i)) r) := by
  have hRC := RC_96 M.1.2.2.1 M.1.2.2.2
  intro r
  induction r with
  | zero =>
    intro k n s hk hn m e9
    obtain ⟨n, rfl⟩ : ∃ n', n = n' + 1 := ⟨n - 1, by omega⟩
    refine ⟨s, ?_, AC_0 _ _ (fun x y i => pz (fun k => decide (co f C 0 k < 8)) (co f C 0) (co f C 1) (wt f C g) x y (k + i)) (fun x y i => pz (fun k => decide (co f C 0 k < 8)) (co f C 0) (co f C 1) (fun _ => 1) x y (k + i))⟩
    rw [gm_23_35, if_pos (by omega), if_pos (by omega), if_pos (by omega)]
  | succ r ih =>
    intro k n s hk hn m e9
    obtain ⟨n, rfl⟩ : ∃ n', n = n' + 1 := ⟨n - 1, by omega⟩
    have hkl : k < R * C := by omega
    have ce : ((k : Int) + 1) = ((k + 1 : Nat) : Int) := rfl
    obtain ⟨⟨_, c0⟩, ⟨_, c1⟩, ⟨_, c2⟩⟩ := co_s M h7 hkl
    obtain ⟨g0, g1, g2⟩ := sp_60g m M h7 hkl
    have g3 := sp_61g m M h7 hg hkl
    rw [gm_23_35, if_pos (by omega), if_pos (by omega), if_neg (by omega), g0, Option.bind_some, if_pos (by omega)]
    by_cases q : co f C 0 k < 8
    · rw [if_neg (by omega)]
      show ∃ u : gx_S, ((gm_60 1 1 k s).bind _) = some u ∧ _
      rw [g1, Option.bind_some]
      show ∃ u : gx_S, ((gm_61 1 (s.1 a 9) k s).bind _) = some u ∧ _
      rw [e9, g3, Option.bind_some]
      show ∃ u : gx_S, ((gm_69 (a + 3) (co f C 0 k : Int) (co f C 1 k : Int) (wt f C g k) 1 s).bind _) = some u ∧ _
      rw [sp_69 s ht q (by omega), Option.bind_some]
      unfold gm_23_86
      rw [ce]
      obtain ⟨u, u1, u2⟩ := ih (k + 1) n (adt s (a + 3) (co f C 0 k) (co f C 1 k) (wt f C g k) 1) (by omega) (by omega) (MR_adt (by omega) m) ((adt_o _ _ _ _ _ _ _ _ (by omega) (by omega)).trans e9)
      exact ⟨u, u1, AC_add (K := fun k => decide (co f C 0 k < 8)) (X := co f C 0) (Y := co f C 1) (w := wt f C g) (decide_eq_true q) q (by omega) u2⟩
    · rw [if_pos (by omega)]
      unfold gm_23_86
      rw [ce]
      obtain ⟨u, u1, u2⟩ := ih (k + 1) n s (by omega) (by omega) m e9
      exact ⟨u, u1, AC_skip (K := fun k => decide (co f C 0 k < 8)) (decide_eq_false q) u2⟩
end
section
/-! THE CLASS: the moves -/
theorem SO_pz {f : Nat → Int} {R C g x y : Nat} (M : MP f R C) (h7 : f 2 = 7) (hx : x < 8) (b : Bool) : SO f R C g x y b = sg (pz (fun k => decide (co f C 0 k < 8)) (co f C 0) (co f C 1) (fun k => if b = true then 1 else wt f C g k) x y) (R * C) := by
  refine sg_eq fun k hk => ?_
  obtain ⟨⟨c0, _⟩, ⟨c1, _⟩, _⟩ := co_s M h7 hk
  unfold pz
  rw [c0, c1]
  by_cases q : co f C 0 k = x ∧ co f C 1 k = y
  · rw [if_pos (show (((x : Nat) : Int) = -1 ∨ (co f C 0 k : Int) = x) ∧ (((y : Nat) : Int) = -1 ∨ (co f C 1 k : Int) = y) by omega), if_pos (show decide (co f C 0 k < 8) = true ∧ co f C 0 k = x ∧ co f C 1 k = y from ⟨decide_eq_true (by omega), q⟩)]
    rfl
  · rw [if_neg (show ¬ ((((x : Nat) : Int) = -1 ∨ (co f C 0 k : Int) = x) ∧ (((y : Nat) : Int) = -1 ∨ (co f C 1 k : Int) = y)) by omega), if_neg (fun h => q h.2)]
theorem SO_row {f : Nat → Int} {R C g : Nat} (M : MP f R C) (h7 : f 2 = 7) (o : Int) (b : Bool) : sg (fun y => SO f R C g o ((y : Nat) : Int) b) 9 = SO f R C g o (-1) b := by
  unfold SO
  rw [sg_swap (fun y k => if (o = -1 ∨ f (52 + 96 * 0 + 12 * (k / C) + k % C) = o) ∧ (((y : Nat) : Int) = -1 ∨ f (52 + 96 * 1 + 12 * (k / C) + k % C) = ((y : Nat) : Int)) then (if b = true then 1 else f (32 + 4 * g + (f (52 + 96 * 2 + 12 * (k / C) + k % C)).toNat)) else 0) (R * C) 9]
  refine sg_eq fun k hk => ?_
  obtain ⟨_, ⟨c1, l1⟩, _⟩ := co_s M h7 hk
  rw [sg_single (i := co f C 1 k) (by omega) fun y hy hn => if_neg fun h => by
    have := h.2
    omega]
  by_cases q : o = -1 ∨ f (52 + 96 * 0 + 12 * (k / C) + k % C) = o
  · rw [if_pos (show (o = -1 ∨ f (52 + 96 * 0 + 12 * (k / C) + k % C) = o) ∧ (((co f C 1 k : Nat) : Int) = -1 ∨ f (52 + 96 * 1 + 12 * (k / C) + k % C) = ((co f C 1 k : Nat) : Int)) from ⟨q, .inr c1⟩), if_pos (show (o = -1 ∨ f (52 + 96 * 0 + 12 * (k / C) + k % C) = o) ∧ ((-1 : Int) = -1 ∨ f (52 + 96 * 1 + 12 * (k / C) + k % C) = -1) from ⟨q, .inl rfl⟩)]
  · rw [if_neg (show ¬ ((o = -1 ∨ f (52 + 96 * 0 + 12 * (k / C) + k % C) = o) ∧ (((co f C 1 k : Nat) : Int) = -1 ∨ f (52 + 96 * 1 + 12 * (k / C) + k % C) = ((co f C 1 k : Nat) : Int))) from fun h => q h.1), if_neg (show ¬ ((o = -1 ∨ f (52 + 96 * 0 + 12 * (k / C) + k % C) = o) ∧ ((-1 : Int) = -1 ∨ f (52 + 96 * 1 + 12 * (k / C) + k % C) = -1)) from fun h => q h.1)]
def flv (P : Nat → Int) (A : Nat → Nat → Int) (x y : Nat) : Int := if sg (fun y => A x y) 9 ≤ 0 then 0 else P x * A x y / sg (fun y => A x y) 9
def rsv (P : Nat → Int) (A : Nat → Nat → Int) (x y : Nat) : Int := if sg (fun y => A x y) 9 ≤ 0 then 0 else P x * A x y % sg (fun y => A x y) 9
/-- a table of the class is as people P and amounts A want it -/
def TR (s : gx_S) (t : Nat) (md : Int) (P : Nat → Int) (A : Nat → Nat → Int) : Prop := ∀ x, x < 8 → s.1 (t + 1) x = P x ∧ s.1 (t + 2) x = sg (fun y => A x y) 9 ∧ ∀ y, y < 9 → s.1 (t + 4) (9 * x + y) = A x y ∧ s.1 (t + 6) (9 * x + y) = flv P A x y ∧ s.1 (t + 7) (9 * x + y) = rsv P A x y ∧ s.1 (t + 8) (9 * x + y) = TB md P A x y
theorem TR_class {md : Int} {P : Nat → Int} {A : Nat → Nat → Int} {c : gx_S} {t : Nat} (ht : fx_oc t 7 = true) (hmd : md = 0 ∨ md = 1) (h : PA P A) (h8 : md = 1 → sg (fun x => sg (fun y => A x y) 9) 8 ≤ 864) (hp : ∀ x, x < 8 → c.1 (t + 1) x = P x) (hb : ∀ i, i < 72 → (0 ≤ c.1 (t + 4) i ∧ c.1 (t + 4) i ≤ 1000000) ∧ (0 ≤ c.1 (t + 5) i ∧ c.1 (t + 5) i ≤ 1000000)) (ha : ∀ x y, x < 8 → y < 9 → am c t x y = A x y) : ∃ u : gx_S, gm_41 t md c = some u ∧ TR u t md P A ∧ ro7 t c u ∧ ∀ x, x < 8 → u.1 (t + 3) x = pl c t x := by
  have t14 := oc7_14 ht
  obtain ⟨u, u1, u2, u3, u4, u5, u6, u7⟩ := TB_class ht hmd h h8 hp hb ha
  refine ⟨u, u1, fun x hx => ?_, u3, u7⟩
  obtain ⟨a1, a2⟩ := u4 x hx
  refine ⟨by rw [u3.2 _ _ (by omega) (by omega) (by omega) (by omega)]; exact hp x hx, a1, fun y hy => ?_⟩
  obtain ⟨b1, b2, b3⟩ := a2 y hy
  have e : aw c t x = sg (fun y => A x y) 9 := am_of fun y hy => ha x y hx hy
  refine ⟨b1, ?_, ?_, u2 x y hx hy⟩
  · rw [b2]
    unfold af flv
    rw [e, hp x hx, ha x y hx hy]
  · rw [b3]
    unfold ar rsv
    rw [e, hp x hx, ha x y hx hy]
theorem TR_o {s u : gx_S} {t : Nat} {md : Int} {P : Nat → Int} {A : Nat → Nat → Int} (o : ∀ k j, t < k → k < t + 9 → u.1 k j = s.1 k j) (h : TR s t md P A) : TR u t md P A := fun x hx => by
  obtain ⟨a1, a2, a3⟩ := h x hx
  refine ⟨by rw [o _ _ (by omega) (by omega)]; exact a1, by rw [o _ _ (by omega) (by omega)]; exact a2, fun y hy => ?_⟩
  obtain ⟨b1, b2, b3, b4⟩ := a3 y hy
  exact ⟨by rw [o _ _ (by omega) (by omega)]; exact b1, by rw [o _ _ (by omega) (by omega)]; exact b2, by rw [o _ _ (by omega) (by omega)]; exact b3, by rw [o _ _ (by omega) (by omega)]; exact b4⟩
/-- the moves: with rows told that have no weight -/
def TM (s : gx_S) (t : Nat) (f : Nat → Int) (R C g : Nat) : Prop := TR s t (f 3) (LV f R C g) (PMV f R C g) ∧ ∀ x, x < 8 → s.1 (t + 3) x = if SO f R C g x (-1) false = 0 then 1 else 0
theorem TM_o {s u : gx_S} {t : Nat} {f : Nat → Int} {R C g : Nat} (o : ∀ k j, t < k → k < t + 9 → u.1 k j = s.1 k j) (h : TM s t f R C g) : TM u t f R C g := ⟨TR_o o h.1, fun x hx => by rw [o _ _ (by omega) (by omega)]; exact h.2 x hx⟩
/-- what has been added up is what the reference sums -/
theorem am_SO {s : gx_S} {f : Nat → Int} {R C g t : Nat} {T : Nat → Nat → Int} {x y : Nat} (F : Nat → Nat → Bool → Int) (e4 : ∀ y, y < 9 → s.1 (t + 4) (9 * x + y) = F x y false) (e5 : ∀ y, y < 9 → s.1 (t + 5) (9 * x + y) = F x y true) (hy : y < 9) (hT : T x y = F x y (decide (sg (fun y => F x y false) 9 = 0))) : am s t x y = T x y := by
  unfold am
  have es : sg (fun c => s.1 (t + 4) (9 * x + c)) 9 = sg (fun y => F x y false) 9 := sg_eq fun y hy => e4 y hy
  rw [es, hT, e4 y hy, e5 y hy]
  by_cases z : sg (fun y => F x y false) 9 = 0
  · rw [if_pos z, decide_eq_true z]
  · rw [if_neg z, decide_eq_false z]
theorem sp_23 {s : gx_S} {f : Nat → Int} {R C g a : Nat} (m : MR s 1 f R C) (M : MP f R C) (h7 : f 2 = 7) (hg : g < 3) (h71 : 71 ≤ a) (ho : fx_oc a 2 = true) (ht : fx_oc (a + 3) 7 = true) (e9 : s.1 a 9 = g) (hl : ∀ z, z < 8 → s.1 (a + 1) z = LV f R C g z) : ∃ u w : gx_S, gm_23 a s = some u ∧ u.1 1 7 = f 3 ∧ gm_41 (a + 3) (f 3) u = some w ∧ TM w (a + 3) f R C g ∧ w.2 = s.2 ∧ ∀ k j, ¬ (7 ≤ k ∧ k ≤ 13) → ¬ (k = 6 ∧ j = 7) → ¬ (a + 4 ≤ k ∧ k ≤ a + 11) → w.1 k j = s.1 k j := by
  obtain ⟨b, b1, b2, b3, b4, b5⟩ := sp_68 s ht
  obtain ⟨c, hc⟩ : ∃ c, c = gcp b (a + 1) 0 (a + 3 + 1) 0 8 := ⟨_, rfl⟩
  have ck : ∀ k i, k ≠ a + 3 + 1 → c.1 k i = b.1 k i := fun k i h => by
    rw [hc]
    exact if_neg fun x => h x.1
  have c1 : ∀ x, x < 8 → c.1 (a + 3 + 1) x = LV f R C g x := fun x hx => by
    rw [hc]
    show (if a + 3 + 1 = a + 3 + 1 ∧ 0 ≤ x ∧ x < 0 + 8 then b.1 (a + 1) (0 + (x - 0)) else b.1 (a + 3 + 1) x) = _
    rw [if_pos ⟨rfl, by omega, by omega⟩, show 0 + (x - 0) = x by omega, b5 _ _ (by omega) (by omega) (by omega)]
    exact hl x hx
  have mc : MR c 1 f R C := MR_o (fun k j h1 h2 => (ck k j (by omega)).trans (b5 k j (by omega) (by omega) (by omega))) m
  have c9 : c.1 a 9 = g := by rw [ck _ _ (by omega), b5 _ _ (by omega) (by omega) (by omega)]; exact e9
  have hRC := RC_96 M.1.2.2.1 M.1.2.2.2
  obtain ⟨u, u1, u2, u3, u4⟩ := sl_23 M h7 hg h71 ht (R * C) 0 100000 c (by omega) (by omega) mc c9
  have u1 : gm_23_35 100000 a ((R * C : Nat) : Int) 0 c = some u := u1
  have e45 : ∀ x y, x < 8 → y < 9 → u.1 (a + 3 + 4) (9 * x + y) = SO f R C g x y false ∧ u.1 (a + 3 + 5) (9 * x + y) = SO f R C g x y true := fun x y hx hy => by
    obtain ⟨q1, q2⟩ := u4 x y hx hy
    have z := b4 (9 * x + y) (by omega)
    rw [ck _ _ (by omega), z.1] at q1
    rw [ck _ _ (by omega), z.2] at q2
    rw [q1, q2, SO_pz M h7 hx false, SO_pz M h7 hx true]
    constructor
    · rw [Int.zero_add]
      exact sg_eq fun k _ => by rw [Nat.zero_add]; rfl
    · rw [Int.zero_add]
      exact sg_eq fun k _ => by rw [Nat.zero_add]; rfl
  obtain ⟨pa, p8⟩ := PA_mv M h7 hg
  have hb : ∀ i, i < 72 → (0 ≤ u.1 (a + 3 + 4) i ∧ u.1 (a + 3 + 4) i ≤ 1000000) ∧ (0 ≤ u.1 (a + 3 + 5) i ∧ u.1 (a + 3 + 5) i ≤ 1000000) := fun i hi => by
    have e : 9 * (i / 9) + i % 9 = i := by omega
    have q := e45 (i / 9) (i % 9) (by omega) (by omega)
    rw [e] at q
    rw [q.1, q.2]
    have r1 := SO_r M h7 hg ((i / 9 : Nat) : Int) ((i % 9 : Nat) : Int) false
    have r2 := SO_r M h7 hg ((i / 9 : Nat) : Int) ((i % 9 : Nat) : Int) true
    omega
  obtain ⟨w, w1, w2, w3, w4⟩ := TR_class (t := a + 3) ht M.2.2.1 pa (fun _ => p8) (fun x hx => (u3 _ _ (by omega) (by omega)).trans (c1 x hx)) hb fun x y hx hy => am_SO (T := PMV f R C g) (R := R) (C := C) (f := f) (g := g) (fun x y b => SO f R C g x y b) (fun y hy => (e45 x y hx hy).1) (fun y hy => (e45 x y hx hy).2) hy (by
    unfold PMV
    rw [SO_row M h7 (x : Int) false])
  refine ⟨u, w, ?_, ?_, w1, ⟨w2, fun x hx => ?_⟩, ?_, fun k j h1 h2 h3 => ?_⟩
  · unfold gm_23
    rw [if_pos ho, b1, Option.bind_some, ← hc, sp_58 (MR_cz mc M), Option.bind_some, u1]
  · rw [u3 1 7 (by omega) (by omega)]
    exact mc.2.2.2.1
  · rw [w4 x hx]
    unfold pl
    rw [sg_eq (f := fun y => u.1 (a + 3 + 4) (9 * x + y)) (g := fun y => SO f R C g x ((y : Nat) : Int) false) fun y hy => (e45 x y hx hy).1, SO_row M h7 (x : Int) false]
  · rw [w3.1, u2, hc]
    exact b2
  · rw [w3.2 k j h1 h2 (by omega) (by omega), u3 k j (by omega) (by omega), ck k j (by omega), b5 k j (by omega) (by omega) (by omega)]
end
