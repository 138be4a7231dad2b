/-! THE REFERENCE: laysMoved -/
theorem sg_single {f : Nat → Int} {n i : Nat} (hi : i < n) (h : ∀ c, c < n → c ≠ i → f c = 0) : sg f n = f i := by
  have a := sg_updn (f := fun _ => 0) (g := f) (i := i) (n := n) (x := f i) hi (Int.zero_add _).symm fun c hc e => h c hc e
  rw [a, sg_0 (f := fun _ => 0) fun _ _ => rfl]
  exact Int.zero_add _
theorem sg_swap3 (f : Nat → Nat → Nat → Int) (n m K : Nat) : sg (fun x => sg (fun y => sg (fun k => f x y k) K) m) n = sg (fun k => sg (fun x => sg (fun y => f x y k) m) n) K := by
  have a : sg (fun x => sg (fun y => sg (fun k => f x y k) K) m) n = sg (fun x => sg (fun k => sg (fun y => f x y k) m) K) n := sg_eq fun x _ => sg_swap (fun y k => f x y k) K m
  rw [a]
  exact sg_swap (fun x k => sg (fun y => f x y k) m) K n
/-- cells, or weights, that are so in both zonings -/
def SO (f : Nat → Int) (R C g : Nat) (o z : Int) (b : Bool) : Int := sg (fun k => if (o = -1 ∨ f (52 + 96 * 0 + 12 * (k / C) + k % C) = o) ∧ (z = -1 ∨ f (52 + 96 * 1 + 12 * (k / C) + k % C) = z) then (if b = true then 1 else f (32 + 4 * g + (f (52 + 96 * 2 + 12 * (k / C) + k % C)).toNat)) else 0) (R * C)
def PMV (f : Nat → Int) (R C g x y : Nat) : Int := SO f R C g x y (decide (SO f R C g x (-1) false = 0))
theorem MP_cok {s : gx_S} {R C : Nat} (M : MP (s.1 216) R C) (h : s.1 216 2 = 7) : cok s R C := by
  have m8 := M.2.2.2.2.2.2.2.1
  refine ⟨fun k hk => ?_, fun k hk => ?_, fun k hk => ?_⟩
  · have := m8 0 (by omega) (by rw [h]; rfl) k hk
    rw [if_neg (by omega)] at this
    exact this
  · have := m8 1 (by omega) (by rw [h]; rfl) k hk
    rw [if_neg (by omega)] at this
    exact this
  · have := m8 2 (by omega) (by rw [h]; rfl) k hk
    rw [if_pos rfl] at this
    exact this
theorem sp_157g {s : gx_S} {R C : Nat} (M : MP (s.1 216) R C) (h : s.1 216 2 = 7) {g : Nat} (o z : Int) (b : Bool) (hg : g < 3) (ho : -1 ≤ o ∧ o ≤ 8) (hz : -1 ≤ z ∧ z ≤ 8) : gm_157 g o z (gb b) s = some (SO (s.1 216) R C g o z b, s) := sp_157 (MP_mz M) (MP_cok M h) g o z b hg ho hz
/-- each cell's own weight (or 1) is within 0 and 9 -/
theorem wt_r {f : Nat → Int} {R C g k : Nat} (M : MP f R C) (h : f 2 = 7) (hg : g < 3) (hk : k < R * C) (b : Bool) : 0 ≤ (if b = true then 1 else f (32 + 4 * g + (f (52 + 96 * 2 + 12 * (k / C) + k % C)).toNat)) ∧ (if b = true then 1 else f (32 + 4 * g + (f (52 + 96 * 2 + 12 * (k / C) + k % C)).toNat)) ≤ 9 := by
  have l := M.2.2.2.2.2.2.2.1 2 (by omega) (by rw [h]; rfl) k hk
  rw [if_pos rfl] at l
  split
  · omega
  · rw [show 32 + 4 * g + (f (52 + 96 * 2 + 12 * (k / C) + k % C)).toNat = 32 + (4 * g + (f (52 + 96 * 2 + 12 * (k / C) + k % C)).toNat) by omega]
    exact M.2.2.2.2.2.1 _ (by omega)
theorem SO_r {f : Nat → Int} {R C g : Nat} (M : MP f R C) (h : f 2 = 7) (hg : g < 3) (o z : Int) (b : Bool) : 0 ≤ SO f R C g o z b ∧ SO f R C g o z b ≤ 864 := by
  have hRC := RC_96 M.1.2.2.1 M.1.2.2.2
  have t : ∀ k, k < R * C → 0 ≤ (if (o = -1 ∨ f (52 + 96 * 0 + 12 * (k / C) + k % C) = o) ∧ (z = -1 ∨ f (52 + 96 * 1 + 12 * (k / C) + k % C) = z) then (if b = true then 1 else f (32 + 4 * g + (f (52 + 96 * 2 + 12 * (k / C) + k % C)).toNat)) else 0) ∧ (if (o = -1 ∨ f (52 + 96 * 0 + 12 * (k / C) + k % C) = o) ∧ (z = -1 ∨ f (52 + 96 * 1 + 12 * (k / C) + k % C) = z) then (if b = true then 1 else f (32 + 4 * g + (f (52 + 96 * 2 + 12 * (k / C) + k % C)).toNat)) else 0) ≤ 9 := fun k hk => by
    have w := wt_r M h hg hk b
    split
    · exact w
    · omega
  unfold SO
  refine ⟨sg_nn fun k hk => (t k hk).1, ?_⟩
  have e := sg_le (n := R * C) (g := fun _ => 9 * 1) fun k hk => (by
    have := (t k hk).2
    show _ ≤ (9 : Int) * 1
    rw [Int.mul_one]
    exact this)
  rw [sg_mul, sg_one] at e
  refine Int.le_trans e ?_
  omega
/-- all of the parts together -/
theorem SO_B {f : Nat → Int} {R C g : Nat} (M : MP f R C) (h : f 2 = 7) (hg : g < 3) (b : Nat → Nat → Bool) (n m : Nat) : sg (fun x => sg (fun y => SO f R C g x y (b x y)) m) n ≤ 864 := by
  have hRC := RC_96 M.1.2.2.1 M.1.2.2.2
  have e1 : sg (fun x => sg (fun y => SO f R C g x y (b x y)) m) n = sg (fun k => sg (fun x => sg (fun y => if (((x : Nat) : Int) = -1 ∨ f (52 + 96 * 0 + 12 * (k / C) + k % C) = x) ∧ (((y : Nat) : Int) = -1 ∨ f (52 + 96 * 1 + 12 * (k / C) + k % C) = y) then (if b x y = true then 1 else f (32 + 4 * g + (f (52 + 96 * 2 + 12 * (k / C) + k % C)).toNat)) else 0) m) n) (R * C) := by
    unfold SO
    exact sg_swap3 (fun x y k => if (((x : Nat) : Int) = -1 ∨ f (52 + 96 * 0 + 12 * (k / C) + k % C) = x) ∧ (((y : Nat) : Int) = -1 ∨ f (52 + 96 * 1 + 12 * (k / C) + k % C) = y) then (if b x y = true then 1 else f (32 + 4 * g + (f (52 + 96 * 2 + 12 * (k / C) + k % C)).toNat)) else 0) n m (R * C)
  rw [e1]
  have e := sg_le (n := R * C) (g := fun _ => 9 * 1) (f := fun k => sg (fun x => sg (fun y => if (((x : Nat) : Int) = -1 ∨ f (52 + 96 * 0 + 12 * (k / C) + k % C) = x) ∧ (((y : Nat) : Int) = -1 ∨ f (52 + 96 * 1 + 12 * (k / C) + k % C) = y) then (if b x y = true then 1 else f (32 + 4 * g + (f (52 + 96 * 2 + 12 * (k / C) + k % C)).toNat)) else 0) m) n) fun k hk => by
    have w := fun b => wt_r M h hg hk b
    have l0 := M.2.2.2.2.2.2.2.1 0 (by omega) (by rw [h]; rfl) k hk
    have l1 := M.2.2.2.2.2.2.2.1 1 (by omega) (by rw [h]; rfl) k hk
    rw [if_neg (by omega)] at l0 l1
    obtain ⟨a, ea⟩ : ∃ a : Nat, f (52 + 96 * 0 + 12 * (k / C) + k % C) = a := ⟨_, (Int.toNat_of_nonneg l0.1).symm⟩
    obtain ⟨d, ed⟩ : ∃ d : Nat, f (52 + 96 * 1 + 12 * (k / C) + k % C) = d := ⟨_, (Int.toNat_of_nonneg l1.1).symm⟩
    rw [ea, ed]
    have z : ∀ x y : Nat, ¬ (x = a ∧ y = d) → (if (((x : Nat) : Int) = -1 ∨ (a : Int) = x) ∧ (((y : Nat) : Int) = -1 ∨ (d : Int) = y) then (if b x y = true then 1 else f (32 + 4 * g + (f (52 + 96 * 2 + 12 * (k / C) + k % C)).toNat)) else 0) = 0 := fun x y q => if_neg (by omega)
    have zin : ∀ x : Nat, sg (fun y => if (((x : Nat) : Int) = -1 ∨ (a : Int) = x) ∧ (((y : Nat) : Int) = -1 ∨ (d : Int) = y) then (if b x y = true then 1 else f (32 + 4 * g + (f (52 + 96 * 2 + 12 * (k / C) + k % C)).toNat)) else 0) m ≤ 9 := fun x => by
      by_cases q : d < m
      · rw [sg_single q fun y _ hy => z x y fun t => hy t.2]
        have := w (b x d)
        show (if _ then _ else _) ≤ (9 : Int)
        split
        · exact this.2
        · omega
      · rw [sg_0 fun y hy => z x y fun t => by omega]
        omega
    by_cases q : a < n
    · rw [sg_single q fun x _ hx => sg_0 fun y _ => z x y fun t => hx t.1]
      exact zin a
    · rw [sg_0 fun x hx => sg_0 fun y _ => z x y fun t => by omega]
      omega
  rw [sg_mul, sg_one] at e
  refine Int.le_trans e ?_
  omega
theorem LV_r {f : Nat → Int} {R C g : Nat} (M : MP f R C) (hg : g < 3) : (∀ z, z < 8 → 0 ≤ LV f R C g z) ∧ sg (LV f R C g) 8 + ASf f R C g ≤ sg (fun z => f (5 + 9 * g + z)) 9 := by
  obtain ⟨p1, p2⟩ := PA_sh M hg
  obtain ⟨l1, l2⟩ := L0_r M hg
  obtain ⟨t1, t2⟩ := TB_0 (md := 0) (.inl rfl) p1 (fun h => absurd h (by decide))
  refine ⟨fun z hz => ?_, ?_⟩
  · have := l1 z hz
    have := (t1 0 z (by omega) (by omega)).1
    unfold LV
    omega
  · have e := sg_add (L0 f R C g) (fun z => TB 0 (Psh f R C g) (Ash f R C g) 0 z) 8
    have a := t2 0 (by omega)
    have d : sg (fun z => TB 0 (Psh f R C g) (Ash f R C g) 0 z) 9 = sg (fun z => TB 0 (Psh f R C g) (Ash f R C g) 0 z) 8 + TB 0 (Psh f R C g) (Ash f R C g) 0 8 := rfl
    have n8 := (t1 0 8 (by omega) (by omega)).1
    have q0 : Psh f R C g 0 = UN f R C g - ASf f R C g := if_pos rfl
    have u0 := UN_r M hg
    have q1 : 0 ≤ UN f R C g - ASf f R C g := by
      unfold ASf
      split <;> omega
    have eL : sg (LV f R C g) 8 = sg (fun z => L0 f R C g z + TB 0 (Psh f R C g) (Ash f R C g) 0 z) 8 := rfl
    rw [q0] at a
    split at a <;> omega
theorem PA_mv {f : Nat → Int} {R C g : Nat} (M : MP f R C) (h : f 2 = 7) (hg : g < 3) : PA (LV f R C g) (PMV f R C g) ∧ sg (fun x => sg (fun y => PMV f R C g x y) 9) 8 ≤ 864 := by
  obtain ⟨a, b⟩ := LV_r M hg
  have m := (M.2.2.2.2.1 g hg).2
  have u0 := UN_r M hg
  have as0 : 0 ≤ ASf f R C g := by
    unfold ASf
    split <;> omega
  have B := SO_B M h hg (fun x y => decide (SO f R C g x (-1) false = 0)) 8 9
  have B : sg (fun x => sg (fun y => PMV f R C g x y) 9) 8 ≤ 864 := B
  refine ⟨⟨fun x hx => ⟨a x hx, ?_⟩, fun x y _ _ => ?_, by omega⟩, B⟩
  · have := sg_at a x hx
    omega
  · have := SO_r M h hg x y (decide (SO f R C g x (-1) false = 0))
    unfold PMV
    omega
