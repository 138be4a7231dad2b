/-! CUTS of tables: what goes over the edge of a set of rows and columns -/
theorem sg_swap (f : Nat → Nat → Int) (n : Nat) : ∀ m : Nat, sg (fun r => sg (fun c => f r c) n) m = sg (fun c => sg (fun r => f r c) m) n
  | 0 => (sg_0 fun _ _ => rfl).symm
  | m + 1 => by
    have a := sg_swap f n m
    have e : (fun c => sg (fun r => f r c) (m + 1)) = fun c => sg (fun r => f r c) m + f m c := rfl
    rw [e, sg_add, ← a]
    rfl
theorem sg_neg (f : Nat → Int) : ∀ n : Nat, sg (fun c => - f c) n = - sg f n
  | 0 => rfl
  | n + 1 => by simp only [sg, sg_neg f n]; omega
/-- over the edge: out of the rows' set's outside into the columns' set, less the other way -/
theorem cut_id (y : Nat → Nat → Int) (R C : Nat → Bool) (m n : Nat) : sg (fun r => sg (fun c => if R r = false ∧ C c = true then y r c else 0) n) m - sg (fun r => sg (fun c => if R r = true ∧ C c = false then y r c else 0) n) m = sg (fun c => if C c = true then sg (fun r => y r c) m else 0) n - sg (fun r => if R r = true then sg (fun c => y r c) n else 0) m := by
  have e1 : sg (fun c => if C c = true then sg (fun r => y r c) m else 0) n = sg (fun r => sg (fun c => if C c = true then y r c else 0) n) m := by
    rw [sg_swap]
    refine sg_eq fun c _ => ?_
    by_cases q : C c = true
    · rw [if_pos q]
      exact sg_eq fun r _ => (if_pos q).symm
    · rw [if_neg q]
      exact (sg_0 fun r _ => if_neg q).symm
  have e2 : sg (fun r => if R r = true then sg (fun c => y r c) n else 0) m = sg (fun r => sg (fun c => if R r = true then y r c else 0) n) m := by
    refine sg_eq fun r _ => ?_
    by_cases q : R r = true
    · rw [if_pos q]
      exact sg_eq fun c _ => (if_pos q).symm
    · rw [if_neg q]
      exact (sg_0 fun c _ => if_neg q).symm
  have key : sg (fun r => sg (fun c => if R r = false ∧ C c = true then y r c else 0) n) m + sg (fun r => sg (fun c => if R r = true then y r c else 0) n) m = sg (fun r => sg (fun c => if R r = true ∧ C c = false then y r c else 0) n) m + sg (fun r => sg (fun c => if C c = true then y r c else 0) n) m := by
    rw [← sg_add, ← sg_add]
    refine sg_eq fun r _ => ?_
    rw [← sg_add, ← sg_add]
    refine sg_eq fun c _ => ?_
    cases R r <;> cases C c <;> simp
  rw [e1, e2]
  omega
theorem sg_pos {f : Nat → Int} {n i : Nat} (h : ∀ k, k < n → 0 ≤ f k) (hi : i < n) (hp : 0 < f i) : 0 < sg f n := by
  have := sg_at h i hi
  omega
/-- a table that differs by whole rows and by columns between bounds can't go one way alone over an edge that lets nothing back: hub tells whether the columns' own bounds lie within -/
theorem cut_hub {y : Nat → Nat → Int} {k : Nat → Int} {R C : Nat → Bool} {hub : Bool} {m n : Nat} (hr : ∀ r, r < m → sg (fun c => y r c) n = 0) (hk : ∀ c, c < n → sg (fun r => y r c) m = k c) (h1 : ∀ r c, r < m → c < n → R r = true → C c = false → y r c ≤ 0) (h2 : ∀ r c, r < m → c < n → R r = false → C c = true → 0 ≤ y r c) (h3 : hub = false → ∀ c, c < n → C c = true → k c ≤ 0) (h4 : hub = true → ∀ c, c < n → C c = false → 0 ≤ k c) : ∀ r c, r < m → c < n → R r = false → C c = true → y r c = 0 := by
  intro r0 c0 hr0 hc0 q1 q2
  have id := cut_id y R C m n
  have z : sg (fun r => if R r = true then sg (fun c => y r c) n else 0) m = 0 := sg_0 fun r hr' => by
    by_cases q : R r = true
    · rw [if_pos q]; exact hr r hr'
    · rw [if_neg q]
  have kk : sg (fun c => if C c = true then sg (fun r => y r c) m else 0) n = sg (fun c => if C c = true then k c else 0) n := sg_eq fun c hc => by rw [hk c hc]
  have tot : sg k n = 0 := by
    have a : sg k n = sg (fun c => sg (fun r => y r c) m) n := sg_eq fun c hc => (hk c hc).symm
    rw [a, ← sg_swap]
    exact sg_0 fun r hr' => hr r hr'
  have kle : sg (fun c => if C c = true then k c else 0) n ≤ 0 := by
    cases hub with
    | false =>
      have a := sg_le (f := fun c => if C c = true then k c else 0) (g := fun _ => 0) (n := n) fun c hc => by
        by_cases q : C c = true
        · rw [if_pos q]; exact h3 rfl c hc q
        · rw [if_neg q]; exact Int.le_refl 0
      rw [sg_0 (f := fun _ => 0) fun _ _ => rfl] at a
      exact a
    | true =>
      have a := sg_le (f := fun c => if C c = true then k c else 0) (g := k) (n := n) fun c hc => by
        by_cases q : C c = true
        · rw [if_pos q]; exact Int.le_refl _
        · rw [if_neg q]
          exact h4 rfl c hc (by cases e : C c with
            | true => exact absurd e q
            | false => rfl)
      omega
  have n2 : sg (fun r => sg (fun c => if R r = true ∧ C c = false then y r c else 0) n) m ≤ 0 := by
    have a := sg_le (f := fun r => sg (fun c => if R r = true ∧ C c = false then y r c else 0) n) (g := fun _ => 0) (n := m) fun r hr' => by
      have b := sg_le (f := fun c => if R r = true ∧ C c = false then y r c else 0) (g := fun _ => 0) (n := n) fun c hc => by
        by_cases q : R r = true ∧ C c = false
        · rw [if_pos q]; exact h1 r c hr' hc q.1 q.2
        · rw [if_neg q]; exact Int.le_refl 0
      rw [sg_0 (f := fun _ => 0) fun _ _ => rfl] at b
      exact b
    rw [sg_0 (f := fun _ => 0) fun _ _ => rfl] at a
    exact a
  have pos : ∀ r, r < m → 0 ≤ sg (fun c => if R r = false ∧ C c = true then y r c else 0) n := fun r hr' => sg_nn fun c hc => by
    by_cases q : R r = false ∧ C c = true
    · rw [if_pos q]; exact h2 r c hr' hc q.1 q.2
    · rw [if_neg q]; exact Int.le_refl 0
  have g0 := h2 r0 c0 hr0 hc0 q1 q2
  by_cases e : y r0 c0 = 0
  · exact e
  · have p1 : 0 < sg (fun c => if R r0 = false ∧ C c = true then y r0 c else 0) n := sg_pos (i := c0) (fun c hc => by
      by_cases q : R r0 = false ∧ C c = true
      · rw [if_pos q]; exact h2 r0 c hr0 hc q.1 q.2
      · rw [if_neg q]; exact Int.le_refl 0) hc0 (by rw [if_pos ⟨q1, q2⟩]; omega)
    have p2 := sg_pos (f := fun r => sg (fun c => if R r = false ∧ C c = true then y r c else 0) n) (i := r0) pos hr0 p1
    omega
/-- nothing below 0 comes in, nothing above 0 goes out: the columns' set has at least what its rows have -/
theorem cut_le {y : Nat → Nat → Int} {R C : Nat → Bool} {m n : Nat} (h1 : ∀ r c, r < m → c < n → R r = true → C c = false → y r c ≤ 0) (h2 : ∀ r c, r < m → c < n → R r = false → C c = true → 0 ≤ y r c) : sg (fun r => if R r = true then sg (fun c => y r c) n else 0) m ≤ sg (fun c => if C c = true then sg (fun r => y r c) m else 0) n := by
  have id := cut_id y R C m n
  have n2 : sg (fun r => sg (fun c => if R r = true ∧ C c = false then y r c else 0) n) m ≤ 0 := by
    have a := sg_le (f := fun r => sg (fun c => if R r = true ∧ C c = false then y r c else 0) n) (g := fun _ => 0) (n := m) fun r hr' => by
      have b := sg_le (f := fun c => if R r = true ∧ C c = false then y r c else 0) (g := fun _ => 0) (n := n) fun c hc => by
        by_cases q : R r = true ∧ C c = false
        · rw [if_pos q]; exact h1 r c hr' hc q.1 q.2
        · rw [if_neg q]; exact Int.le_refl 0
      rw [sg_0 (f := fun _ => 0) fun _ _ => rfl] at b
      exact b
    rw [sg_0 (f := fun _ => 0) fun _ _ => rfl] at a
    exact a
  have pos : 0 ≤ sg (fun r => sg (fun c => if R r = false ∧ C c = true then y r c else 0) n) m := sg_nn fun r hr' => sg_nn fun c hc => by
    by_cases q : R r = false ∧ C c = true
    · rw [if_pos q]; exact h2 r c hr' hc q.1 q.2
    · rw [if_neg q]; exact Int.le_refl 0
  omega
