/-! THE CLASS: tables filled from the cells -/
def co (f : Nat → Int) (C l k : Nat) : Nat := (f (52 + 96 * l + 12 * (k / C) + k % C)).toNat
def wt (f : Nat → Int) (C g k : Nat) : Int := f (32 + 4 * g + co f C 2 k)
theorem co_s {f : Nat → Int} {R C k : Nat} (M : MP f R C) (h7 : f 2 = 7) (hk : k < R * C) : (f (52 + 96 * 0 + 12 * (k / C) + k % C) = (co f C 0 k : Int) ∧ co f C 0 k ≤ 8) ∧ (f (52 + 96 * 1 + 12 * (k / C) + k % C) = (co f C 1 k : Int) ∧ co f C 1 k ≤ 8) ∧ (f (52 + 96 * 2 + 12 * (k / C) + k % C) = (co f C 2 k : Int) ∧ co f C 2 k ≤ 3) := by
  have m8 := M.2.2.2.2.2.2.2.1
  have a0 := m8 0 (by omega) (by rw [h7]; rfl) k hk
  have a1 := m8 1 (by omega) (by rw [h7]; rfl) k hk
  have a2 := m8 2 (by omega) (by rw [h7]; rfl) k hk
  rw [if_neg (by omega)] at a0 a1
  rw [if_pos rfl] at a2
  unfold co
  omega
theorem wt_b {f : Nat → Int} {R C g k : Nat} (M : MP f R C) (h7 : f 2 = 7) (hg : g < 3) (hk : k < R * C) : 0 ≤ wt f C g k ∧ wt f C g k ≤ 9 := by
  have c := (co_s M h7 hk).2.2.2
  unfold wt
  rw [show 32 + 4 * g + co f C 2 k = 32 + (4 * g + co f C 2 k) by omega]
  exact M.2.2.2.2.2.1 _ (by omega)
theorem sp_60g {s : gx_S} {f : Nat → Int} {R C k : Nat} (m : MR s 1 f R C) (M : MP f R C) (h7 : f 2 = 7) (hk : k < R * C) : gm_60 1 0 k s = some ((co f C 0 k : Int), s) ∧ gm_60 1 1 k s = some ((co f C 1 k : Int), s) ∧ gm_60 1 2 k s = some ((co f C 2 k : Int), s) := by
  have hRC := RC_96 M.1.2.2.1 M.1.2.2.2
  obtain ⟨c0, c1, c2⟩ := co_s M h7 hk
  have m9 := m.2.2.2.2.2.2.2.2
  refine ⟨?_, ?_, ?_⟩
  · have c : gm_60 1 0 k s = _ := sp_60 (s := s) (a := 1) (by decide +kernel) 0 k (by omega) (by omega)
    rw [c, m9 0 (by omega) (by rw [h7]; rfl) k hk, c0.1]
  · have c : gm_60 1 1 k s = _ := sp_60 (s := s) (a := 1) (by decide +kernel) 1 k (by omega) (by omega)
    rw [c, m9 1 (by omega) (by rw [h7]; rfl) k hk, c1.1]
  · have c : gm_60 1 2 k s = _ := sp_60 (s := s) (a := 1) (by decide +kernel) 2 k (by omega) (by omega)
    rw [c, m9 2 (by omega) (by rw [h7]; rfl) k hk, c2.1]
theorem sp_61g {s : gx_S} {f : Nat → Int} {R C g k : Nat} (m : MR s 1 f R C) (M : MP f R C) (h7 : f 2 = 7) (hg : g < 3) (hk : k < R * C) : gm_61 1 g k s = some (wt f C g k, s) := by
  have c := (co_s M h7 hk).2.2.2
  unfold gm_61
  rw [if_pos (by decide +kernel), (sp_60g m M h7 hk).2.2, Option.bind_some, if_pos (by omega)]
  have i : ((((g : Int) * 4) + ((co f C 2 k : Int), s).1)).toNat = 4 * g + co f C 2 k := by
    show ((g : Int) * 4 + (co f C 2 k : Int)).toNat = _
    omega
  rw [i]
  have e := m.2.2.2.2.2.2.1 (4 * g + co f C 2 k) (by omega)
  show some (s.1 (1 + 3) (4 * g + co f C 2 k), s) = _
  rw [e]
  unfold wt
  rw [show 32 + (4 * g + co f C 2 k) = 32 + 4 * g + co f C 2 k by omega]
theorem sg_shift (F : Nat → Int) : ∀ (n k : Nat), sg (fun i => F (k + i)) (n + 1) = F k + sg (fun i => F (k + 1 + i)) n
  | 0, k => by
    show 0 + F (k + 0) = F k + 0
    rw [Nat.add_zero]
    omega
  | n + 1, k => by
    have a := sg_shift F n k
    show sg (fun i => F (k + i)) (n + 1) + F (k + (n + 1)) = F k + (sg (fun i => F (k + 1 + i)) n + F (k + 1 + n))
    rw [a, show k + (n + 1) = k + 1 + n by omega]
    omega
/-- a cell's share of an entry -/
def pz (K : Nat → Bool) (X Y : Nat → Nat) (w : Nat → Int) (x y k : Nat) : Int := if K k = true ∧ X k = x ∧ Y k = y then w k else 0
/-- a table has been added to -/
def AC (t : Nat) (s u : gx_S) (F4 F5 : Nat → Nat → Int) : Prop := u.2 = s.2 ∧ (∀ k i, k ≠ t + 4 → k ≠ t + 5 → u.1 k i = s.1 k i) ∧ ∀ x y, x < 8 → y < 9 → u.1 (t + 4) (9 * x + y) = s.1 (t + 4) (9 * x + y) + F4 x y ∧ u.1 (t + 5) (9 * x + y) = s.1 (t + 5) (9 * x + y) + F5 x y
theorem AC_0 (t : Nat) (s : gx_S) (F4 F5 : Nat → Nat → Nat → Int) : AC t s s (fun x y => sg (F4 x y) 0) (fun x y => sg (F5 x y) 0) := ⟨rfl, fun _ _ _ _ => rfl, fun x y _ _ => ⟨(Int.add_zero _).symm, (Int.add_zero _).symm⟩⟩
theorem AC_skip {t k r : Nat} {s u : gx_S} {K : Nat → Bool} {X Y : Nat → Nat} {w : Nat → Int} (hK : K k = false) (h : AC t s u (fun x y => sg (fun i => pz K X Y w x y (k + 1 + i)) r) (fun x y => sg (fun i => pz K X Y (fun _ => 1) x y (k + 1 + i)) r)) : AC t s u (fun x y => sg (fun i => pz K X Y w x y (k + i)) (r + 1)) (fun x y => sg (fun i => pz K X Y (fun _ => 1) x y (k + i)) (r + 1)) := by
  have z : ∀ (v : Nat → Int) x y, pz K X Y v x y k = 0 := fun v x y => if_neg fun h => by
    rw [hK] at h
    exact Bool.noConfusion h.1
  obtain ⟨h1, h2, h3⟩ := h
  refine ⟨h1, h2, fun x y hx hy => ?_⟩
  obtain ⟨a, b⟩ := h3 x y hx hy
  have a : u.1 (t + 4) (9 * x + y) = s.1 (t + 4) (9 * x + y) + sg (fun i => pz K X Y w x y (k + 1 + i)) r := a
  have b : u.1 (t + 5) (9 * x + y) = s.1 (t + 5) (9 * x + y) + sg (fun i => pz K X Y (fun _ => 1) x y (k + 1 + i)) r := b
  show u.1 (t + 4) (9 * x + y) = s.1 (t + 4) (9 * x + y) + sg (fun i => pz K X Y w x y (k + i)) (r + 1) ∧ u.1 (t + 5) (9 * x + y) = s.1 (t + 5) (9 * x + y) + sg (fun i => pz K X Y (fun _ => 1) x y (k + i)) (r + 1)
  rw [sg_shift (pz K X Y w x y), sg_shift (pz K X Y (fun _ => 1) x y), z, z, a, b]
  omega
theorem AC_add {t k r : Nat} {s u : gx_S} {K : Nat → Bool} {X Y : Nat → Nat} {w : Nat → Int} (hK : K k = true) (hX : X k < 8) (hY : Y k < 9) (h : AC t (adt s t (X k) (Y k) (w k) 1) u (fun x y => sg (fun i => pz K X Y w x y (k + 1 + i)) r) (fun x y => sg (fun i => pz K X Y (fun _ => 1) x y (k + 1 + i)) r)) : AC t s u (fun x y => sg (fun i => pz K X Y w x y (k + i)) (r + 1)) (fun x y => sg (fun i => pz K X Y (fun _ => 1) x y (k + i)) (r + 1)) := by
  obtain ⟨h1, h2, h3⟩ := h
  refine ⟨h1, fun k' i q1 q2 => (h2 k' i q1 q2).trans (adt_o _ _ _ _ _ _ _ _ q1 q2), fun x y hx hy => ?_⟩
  obtain ⟨a, b⟩ := h3 x y hx hy
  have a : u.1 (t + 4) (9 * x + y) = (adt s t (X k) (Y k) (w k) 1).1 (t + 4) (9 * x + y) + sg (fun i => pz K X Y w x y (k + 1 + i)) r := a
  have b : u.1 (t + 5) (9 * x + y) = (adt s t (X k) (Y k) (w k) 1).1 (t + 5) (9 * x + y) + sg (fun i => pz K X Y (fun _ => 1) x y (k + 1 + i)) r := b
  show u.1 (t + 4) (9 * x + y) = s.1 (t + 4) (9 * x + y) + sg (fun i => pz K X Y w x y (k + i)) (r + 1) ∧ u.1 (t + 5) (9 * x + y) = s.1 (t + 5) (9 * x + y) + sg (fun i => pz K X Y (fun _ => 1) x y (k + i)) (r + 1)
  rw [sg_shift (pz K X Y w x y), sg_shift (pz K X Y (fun _ => 1) x y), a, b, adt_4, adt_5]
  unfold pz
  by_cases q : X k = x ∧ Y k = y
  · rw [if_pos (show 9 * x + y = 9 * X k + Y k by omega), if_pos (show 9 * x + y = 9 * X k + Y k by omega), if_pos ⟨hK, q⟩, if_pos ⟨hK, q⟩]
    show _ ∧ s.1 (t + 5) (9 * x + y) + 1 + _ = s.1 (t + 5) (9 * x + y) + (1 + _)
    omega
  · rw [if_neg (show ¬ 9 * x + y = 9 * X k + Y k by omega), if_neg (show ¬ 9 * x + y = 9 * X k + Y k by omega), if_neg (fun h => q h.2), if_neg (fun h => q h.2)]
    omega
theorem MR_adt {s : gx_S} {f : Nat → Int} {R C t x y : Nat} {v w : Int} (ht : 5 < t) (m : MR s 1 f R C) : MR (adt s t x y v w) 1 f R C := MR_o (fun k j h1 h2 => adt_o _ _ _ _ _ _ _ _ (by omega) (by omega)) m
theorem sl_23 {f : Nat → Int} {R C g a : Nat} (M : MP f R C) (h7 : f 2 = 7) (hg : g < 3) (h71 : 71 ≤ a) (ht : fx_oc (a + 3) 7 = true) : ∀ (r k n : Nat) (s : gx_S), k + r = R * C → r < n → MR s 1 f R C → s.1 a 9 = g → ∃ u : gx_S, gm_23_35 n a ((R * C : Nat) : Int) k s = some u ∧ AC (a + 3) s u (fun x y => sg (fun i => pz (fun k => decide (co f C 0 k < 8)) (co f C 0) (co f C 1) (wt f C g) x y (k + i)) r) (fun x y => sg (fun i => pz (fun k => decide (co f C 0 k < 8)) (co f C 0) (co f C 1) (fun _ => 1) x y (k + i)) r) := by
  have hRC := RC_96 M.1.2.2.1 M.1.2.2.2
  intro r
  induction r with
  | zero =>
    intro k n s hk hn m e9
    obtain ⟨n, rfl⟩ : ∃ n', n = n' + 1 := ⟨n - 1, by omega⟩
    refine ⟨s, ?_, AC_0 _ _ (fun x y i => pz (fun k => decide (co f C 0 k < 8)) (co f C 0) (co f C 1) (wt f C g) x y (k + i)) (fun x y i => pz (fun k => decide (co f C 0 k < 8)) (co f C 0) (co f C 1) (fun _ => 1) x y (k + i))⟩
    rw [gm_23_35, if_pos (by omega), if_pos (by omega), if_pos (by omega)]
  | succ r ih =>
    intro k n s hk hn m e9
    obtain ⟨n, rfl⟩ : ∃ n', n = n' + 1 := ⟨n - 1, by omega⟩
    have hkl : k < R * C := by omega
    have ce : ((k : Int) + 1) = ((k + 1 : Nat) : Int) := rfl
    obtain ⟨⟨_, c0⟩, ⟨_, c1⟩, ⟨_, c2⟩⟩ := co_s M h7 hkl
    obtain ⟨g0, g1, g2⟩ := sp_60g m M h7 hkl
    have g3 := sp_61g m M h7 hg hkl
    rw [gm_23_35, if_pos (by omega), if_pos (by omega), if_neg (by omega), g0, Option.bind_some, if_pos (by omega)]
    by_cases q : co f C 0 k < 8
    · rw [if_neg (by omega)]
      show ∃ u : gx_S, ((gm_60 1 1 k s).bind _) = some u ∧ _
      rw [g1, Option.bind_some]
      show ∃ u : gx_S, ((gm_61 1 (s.1 a 9) k s).bind _) = some u ∧ _
      rw [e9, g3, Option.bind_some]
      show ∃ u : gx_S, ((gm_69 (a + 3) (co f C 0 k : Int) (co f C 1 k : Int) (wt f C g k) 1 s).bind _) = some u ∧ _
      rw [sp_69 s ht q (by omega), Option.bind_some]
      unfold gm_23_86
      rw [ce]
      obtain ⟨u, u1, u2⟩ := ih (k + 1) n (adt s (a + 3) (co f C 0 k) (co f C 1 k) (wt f C g k) 1) (by omega) (by omega) (MR_adt (by omega) m) ((adt_o _ _ _ _ _ _ _ _ (by omega) (by omega)).trans e9)
      exact ⟨u, u1, AC_add (K := fun k => decide (co f C 0 k < 8)) (X := co f C 0) (Y := co f C 1) (w := wt f C g) (decide_eq_true q) q (by omega) u2⟩
    · rw [if_pos (by omega)]
      unfold gm_23_86
      rw [ce]
      obtain ⟨u, u1, u2⟩ := ih (k + 1) n s (by omega) (by omega) m e9
      exact ⟨u, u1, AC_skip (K := fun k => decide (co f C 0 k < 8)) (decide_eq_false q) u2⟩
