/-! THE REFERENCE's BALANCED TABLE: balances fixes the first that comes right -/
theorem CI_step {s0 s t : gx_S} {R m r c : Nat} {v : Int} (hr : r < R) (hc : c < m) (m9 : m ≤ 9) (X : CI s0 s R m r c) (t1 : ∀ k j, k ≠ 232 → k ≠ 233 → k ≠ 234 → k ≠ 235 → t.1 k j = s.1 k j) (t2 : ∀ k j, k ≠ 224 → k ≠ 229 → k ≠ 230 → k ≠ 231 → t.2 k j = s.2 k j) (t3 : RB t R m ∧ WB t ∧ C01 t) (t4 : ∀ j, t.1 233 j = if j = 9 * r + c then 1 else s.1 233 j) (t5 : ∀ j, t.1 234 j = if j = 9 * r + c then v else s.1 234 j) (t6 : ∀ j, t.2 224 j = s.2 224 j + if j = 9 * r + c then v else 0) (hv : v = 1 → 0 < s0.2 225 (9 * r + c)) (k1 : ∃ T, FEr s0 R m T ∧ (∀ x y, x < R → y < m → ev r c x y → T (9 * x + y) = s.1 234 (9 * x + y)) ∧ T (9 * r + c) = v) (k2 : ∀ T, FEr s0 R m T → (∀ x y, x < R → y < m → ev r c x y → T (9 * x + y) = s.1 234 (9 * x + y)) → T (9 * r + c) ≤ v) : CI s0 t R m r (c + 1) := by
  obtain ⟨x1, x2, x3, x4, x5, x6⟩ := X
  have e0 : ¬ ev r c r c := by unfold ev; omega
  have e1 : ev r (c + 1) r c := by unfold ev; omega
  have eo : ∀ x y, ¬ (x = r ∧ y = c) → (ev r (c + 1) x y ↔ ev r c x y) := fun x y h => by unfold ev; omega
  have ne : ∀ x y, y < m → ¬ (x = r ∧ y = c) → ¬ 9 * x + y = 9 * r + c := fun x y hy h => by omega
  have old : ∀ x y, y < m → ¬ (x = r ∧ y = c) → t.1 234 (9 * x + y) = s.1 234 (9 * x + y) := fun x y hy h => by rw [t5, if_neg (ne x y hy h)]
  refine ⟨⟨fun k j h1 h2 h3 h4 => (t1 k j h1 h2 h3 h4).trans (x1.1 k j h1 h2 h3 h4), fun k j h1 h2 h3 h4 => (t2 k j h1 h2 h3 h4).trans (x1.2 k j h1 h2 h3 h4)⟩, t3, fun x y hx hy => ?_, fun j h => ?_, ?_, fun T hT x y hx hy h hT' => ?_⟩
  · obtain ⟨a1, a2, a3⟩ := x3 x y hx hy
    by_cases e : x = r ∧ y = c
    · obtain ⟨rfl, rfl⟩ := e
      rw [t4, t5, t6, if_pos rfl, if_pos rfl, if_pos rfl, if_pos e1, if_pos e1]
      rw [if_neg e0] at a3
      exact ⟨rfl, fun _ h => hv h, by omega⟩
    · have n := ne x y hy e
      rw [t4, t5, t6, if_neg n, if_neg n, if_neg n]
      by_cases q : ev r c x y
      · rw [if_pos ((eo x y e).mpr q), if_pos ((eo x y e).mpr q)]
        rw [if_pos q] at a1 a3
        exact ⟨a1, a2, by omega⟩
      · rw [if_neg (fun z => q ((eo x y e).mp z)), if_neg (fun z => q ((eo x y e).mp z))]
        rw [if_neg q] at a1 a3
        exact ⟨a1, a2, by omega⟩
  · rw [t6, if_neg (h r c hr hc), x4 j h]
    omega
  · obtain ⟨T, h1, h2, h3⟩ := k1
    refine ⟨T, h1, fun x y hx hy h => ?_⟩
    by_cases e : x = r ∧ y = c
    · rw [e.1, e.2, t5, if_pos rfl, h3]
    · rw [old x y hy e]
      exact h2 x y hx hy ((eo x y e).mp h)
  · by_cases e : x = r ∧ y = c
    · obtain ⟨rfl, rfl⟩ := e
      rw [t5, if_pos rfl]
      refine k2 T hT fun x' y' hx' hy' h' => ?_
      have a := hT' x' y' hx' hy' h'
      rw [old x' y' hy' (fun z => e0 (by rw [z.1, z.2] at h'; exact h'))] at a
      exact a
    · rw [old x y hy e]
      refine x6 T hT x y hx hy ((eo x y e).mp h) fun x' y' hx' hy' h' => ?_
      have a := hT' x' y' hx' hy' h'
      rw [old x' y' hy' (fun z => by
        have q := (eo x y e).mp h
        rw [z.1, z.2] at h'
        unfold ev at h' q
        omega)] at a
      exact a
theorem CI_row {s0 s : gx_S} {R m r : Nat} (X : CI s0 s R m r m) : CI s0 s R m (r + 1) 0 := by
  obtain ⟨x1, x2, x3, x4, ⟨T, x5, x5'⟩, x6⟩ := X
  have eo : ∀ x y, y < m → (ev (r + 1) 0 x y ↔ ev r m x y) := fun x y h => by unfold ev; omega
  refine ⟨x1, x2, fun x y hx hy => ?_, x4, ⟨T, x5, fun x y hx hy h => x5' x y hx hy ((eo x y hy).mp h)⟩, fun T hT x y hx hy h hT' => x6 T hT x y hx hy ((eo x y hy).mp h) hT'⟩
  obtain ⟨a1, a2, a3⟩ := x3 x y hx hy
  by_cases q : ev r m x y
  · rw [if_pos ((eo x y hy).mpr q), if_pos ((eo x y hy).mpr q)]
    rw [if_pos q] at a1 a3
    exact ⟨a1, a2, a3⟩
  · rw [if_neg (fun z => q ((eo x y hy).mp z)), if_neg (fun z => q ((eo x y hy).mp z))]
    rw [if_neg q] at a1 a3
    exact ⟨a1, a2, a3⟩
theorem CI_81 {s0 s : gx_S} {R m r c : Nat} (k : Int → gx_S → Option gx_S) (n : Nat) (hr : r < R) (hc : c < m) (X : CI s0 s R m r c) (h6 : ∀ r, r < R → 0 ≤ s0.2 226 r ∧ s0.2 226 r ≤ 9) (h7 : ∀ c, c < 9 → (0 ≤ s0.2 227 c ∧ s0.2 227 c ≤ 9) ∧ 0 ≤ s0.2 228 c ∧ s0.2 228 c ≤ 9) : ∃ t : gx_S, gm_172_81 k (n + 1) r c s = gm_172_81 k n r ((c + 1 : Nat) : Int) t ∧ CI s0 t R m r (c + 1) := by
  obtain ⟨x1, x2, x3, x4, ⟨T0, x5, x5'⟩, x6⟩ := id X
  obtain ⟨B, W, C⟩ := x2
  obtain ⟨k1, k2, k3, k4, R8, m9⟩ := id B
  have e25 : ∀ j, s.2 225 j = s0.2 225 j := fun j => x1.2 225 j (by decide) (by decide) (by decide) (by decide)
  have b25 := (k1 (9 * r + c) (by omega)).2.2
  rw [se_172_81 k n (by omega) hc m9 k4 b25]
  have Bm : ∀ v, RB (mkf s r c v) R m := fun v => by
    refine ⟨fun j hj => ⟨?_, ?_, (k1 j hj).2.2⟩, fun d hd => ⟨?_, (k2 d hd).2⟩, ?_, ?_, R8, m9⟩
    · rw [mkf_1 s r c v 232 j (by decide) (by decide)]
      exact (k1 j hj).1
    · rw [mkf_f]
      split
      · exact .inr rfl
      · exact (k1 j hj).2.1
    · rw [mkf_1 s r c v 235 d (by decide) (by decide)]
      exact (k2 d hd).1
    · rw [mkf_1 s r c v 215 17 (by decide) (by decide)]
      exact k3
    · rw [mkf_1 s r c v 215 18 (by decide) (by decide)]
      exact k4
  have Cm : ∀ v, v = 0 ∨ v = 1 → C01 (mkf s r c v) := fun v hv j hj => by
    rw [mkf_f, mkf_v]
    have a := C j hj
    refine ⟨?_, ?_⟩
    · split
      · exact .inr rfl
      · exact a.1
    · split
      · exact hv
      · exact a.2
  have St : ∀ (u : gx_S) (v : Int), (v = 0 ∨ v = 1) → RB u R m ∧ WB u ∧ C01 u → RB (stv u r c v) R m ∧ WB (stv u r c v) ∧ C01 (stv u r c v) := fun u v hv ⟨a1, a2, a3⟩ => by
    refine ⟨⟨fun j hj => ?_, fun d hd => ?_, ?_, ?_, R8, m9⟩, fun j hj => ?_, fun j hj => ?_⟩
    · rw [stv_1 u r c v 232 j (by decide), stv_1 u r c v 233 j (by decide), stv_2 u r c v 225 j (by decide)]
      exact a1.1 j hj
    · rw [stv_1 u r c v 235 d (by decide), stv_2 u r c v 229 d (by decide), stv_2 u r c v 230 d (by decide)]
      exact a1.2.1 d hd
    · rw [stv_1 u r c v 215 17 (by decide)]
      exact a1.2.2.1
    · rw [stv_1 u r c v 215 18 (by decide)]
      exact a1.2.2.2.1
    · rw [stv_2 u r c v 231 j (by decide)]
      exact a2 j hj
    · rw [stv_1 u r c v 233 j (by decide), stv_v]
      refine ⟨(a3 j hj).1, ?_⟩
      split
      · exact hv
      · exact (a3 j hj).2
  by_cases z : 0 < s.2 225 (9 * r + c)
  · rw [if_pos z]
    obtain ⟨b, u, u1, u2, u3, u4, u5⟩ := sp_171 (s := mkf s r c 1) (Bm 1) W (Cm 1 (.inr rfl)) (fun x y hx hy h1 h2 => by
      show 0 < s.2 225 (9 * x + y)
      rw [mkf_f] at h1
      rw [mkf_v] at h2
      by_cases e : 9 * x + y = 9 * r + c
      · rw [e]; exact z
      · rw [if_neg e] at h1 h2
        rw [e25]
        exact (x3 x y hx hy).2.1 h1 h2) (fun x hx => by
      show 0 ≤ s.2 226 x ∧ s.2 226 x ≤ 9
      rw [x1.2 226 x (by decide) (by decide) (by decide) (by decide)]
      exact h6 x hx) (fun d hd => by
      show (0 ≤ s.2 227 d ∧ s.2 227 d ≤ 9) ∧ 0 ≤ s.2 228 d ∧ s.2 228 d ≤ 9
      rw [x1.2 227 d (by decide) (by decide) (by decide) (by decide), x1.2 228 d (by decide) (by decide) (by decide) (by decide)]
      exact h7 d hd)
    have Fe : ∀ T, FEr (mkf s r c 1) R m T ↔ FEr s0 R m T := fun T => FEr_o (s := mkf s r c 1) x1.2
    have AG : ∀ T, AGr (mkf s r c 1) R m T ↔ ((∀ x y, x < R → y < m → ev r c x y → T (9 * x + y) = s.1 234 (9 * x + y)) ∧ T (9 * r + c) = 1) := fun T => by
      constructor
      · intro h
        refine ⟨fun x y hx hy q => ?_, ?_⟩
        · have ne : ¬ 9 * x + y = 9 * r + c := by unfold ev at q; omega
          have a := h x y hx hy
          rw [mkf_f, mkf_v, if_neg ne, if_neg ne, (x3 x y hx hy).1, if_pos q] at a
          exact a rfl
        · have a := h r c hr hc
          rw [mkf_f, mkf_v, if_pos rfl, if_pos rfl] at a
          exact a rfl
      · rintro ⟨h1, h2⟩ x y hx hy
        rw [mkf_f, mkf_v]
        by_cases e : 9 * x + y = 9 * r + c
        · rw [if_pos e, if_pos e, e]
          exact fun _ => h2
        · rw [if_neg e, if_neg e, (x3 x y hx hy).1]
          by_cases q : ev r c x y
          · exact fun _ => h1 x y hx hy q
          · rw [if_neg q]
            exact fun h => absurd h (by decide)
    rw [u1, Option.bind_some]
    have uC : C01 u := fun j hj => by
      rw [u2.1 233 j (by decide) (by decide), u2.1 234 j (by decide) (by decide)]
      exact Cm 1 (.inr rfl) j hj
    have v01 : (if b = true then (1 : Int) else 0) = 0 ∨ (if b = true then (1 : Int) else 0) = 1 := by
      split
      · exact .inr rfl
      · exact .inl rfl
    refine ⟨_, rfl, CI_step (v := if b = true then 1 else 0) hr hc m9 X (fun k j h1 h2 h3 h4 => ?_) (fun k j h1 h2 h3 h4 => ?_) (St u _ v01 ⟨u3, u4, uC⟩) (fun j => ?_) (fun j => ?_) (fun j => ?_) (fun _ => by rw [← e25]; exact z) ?_ ?_⟩
    · rw [stv_1 u r c _ k j h3, u2.1 k j h1 h4, mkf_1 s r c 1 k j h2 h3]
    · rw [stv_2 u r c _ k j h1, u2.2 k j h2 h3 h4]
      rfl
    · rw [stv_1 u r c _ 233 j (by decide), u2.1 233 j (by decide) (by decide), mkf_f]
    · rw [stv_v, u2.1 234 j (by decide) (by decide), mkf_v]
      by_cases e : j = 9 * r + c
      · rw [if_pos e, if_pos e]
      · rw [if_neg e, if_neg e, if_neg e]
    · rw [stv_4, u2.2 224 j (by decide) (by decide) (by decide)]
      rfl
    · cases b with
      | true =>
        obtain ⟨T, T1, T2⟩ := u5.mp rfl
        obtain ⟨T3, T4⟩ := (AG T).mp T2
        exact ⟨T, (Fe T).mp T1, T3, T4⟩
      | false =>
        refine ⟨T0, x5, x5', ?_⟩
        rcases (x5.1 r c hr hc).1 with q | q
        · exact q
        · exact absurd (u5.mpr ⟨T0, (Fe T0).mpr x5, (AG T0).mpr ⟨x5', q⟩⟩) Bool.false_ne_true
    · intro T hT hT'
      have t01 := (hT.1 r c hr hc).1
      cases b with
      | true =>
        rw [if_pos rfl]
        omega
      | false =>
        rw [if_neg Bool.false_ne_true]
        rcases t01 with q | q
        · omega
        · exact absurd (u5.mpr ⟨T, (Fe T).mpr hT, (AG T).mpr ⟨hT', q⟩⟩) Bool.false_ne_true
  · rw [if_neg z]
    have zero : ∀ T, FEr s0 R m T → T (9 * r + c) = 0 := fun T hT => by
      obtain ⟨a1, a2⟩ := hT.1 r c hr hc
      rcases a1 with q | q
      · exact q
      · have := a2 q
        rw [← e25] at this
        exact absurd this z
    refine ⟨_, rfl, CI_step hr hc m9 X (fun k j h1 h2 h3 h4 => ?_) (fun k j h1 h2 h3 h4 => ?_) (St _ 0 (.inl rfl) ⟨Bm 0, W, Cm 0 (.inl rfl)⟩) (fun j => ?_) (fun j => ?_) (fun j => ?_) (fun h => absurd h (by decide)) ⟨T0, x5, x5', zero T0 x5⟩ fun T hT _ => Int.le_of_eq (zero T hT)⟩
    · rw [stv_1 _ r c _ k j h3, mkf_1 s r c 0 k j h2 h3]
    · rw [stv_2 _ r c _ k j h1]
      rfl
    · rw [stv_1 _ r c _ 233 j (by decide), mkf_f]
    · rw [stv_v, mkf_v]
      by_cases e : j = 9 * r + c
      · rw [if_pos e, if_pos e]
      · rw [if_neg e, if_neg e]
    · rw [stv_4]
      rfl
