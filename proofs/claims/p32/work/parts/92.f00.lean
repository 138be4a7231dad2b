/-! ROWS BY REMAINDERS and BALANCED TABLES, plainly -/
theorem bst_top {v : Nat → Int} {m : Nat} (h : 0 ≤ bst v m) : 0 < v (bst v m).toNat ∧ (∀ c, c < m → v c ≤ v (bst v m).toNat) ∧ ∀ c : Nat, (c : Int) < bst v m → v c < v (bst v m).toNat := by
  have e : bs ((fun _ _ => 0, fun _ j => v j) : gx_S) 0 m = bst v m := (bs_bst _ 0 m).trans (bst_eq fun c _ => by show v (9 * 0 + c) = v c; rw [Nat.mul_zero, Nat.zero_add])
  have g := bs_some (s := ((fun _ _ => 0, fun _ j => v j) : gx_S)) (r := 0) (m := m) (by rw [e]; exact h)
  rw [e] at g
  have s : ∀ c, v (9 * 0 + c) = v c := fun c => by rw [Nat.mul_zero, Nat.zero_add]
  obtain ⟨g1, g2, g3⟩ := g
  dsimp only at g1 g2 g3
  rw [s] at g1
  exact ⟨g1, fun c hc => by have := g2 c hc; rw [s, s] at this; exact this, fun c hc => by have := g3 c hc; rw [s, s] at this; exact this⟩
theorem bst_no {v : Nat → Int} {m : Nat} (h : bst v m = -1) : ∀ c, c < m → v c ≤ 0 := fun c hc => by
  have e : bs ((fun _ _ => 0, fun _ j => v j) : gx_S) 0 m = bst v m := (bs_bst _ 0 m).trans (bst_eq fun c _ => by show v (9 * 0 + c) = v c; rw [Nat.mul_zero, Nat.zero_add])
  have g := bs_none (s := ((fun _ _ => 0, fun _ j => v j) : gx_S)) (r := 0) (m := m) (e.trans h) c hc
  dsimp only at g
  rw [Nat.mul_zero, Nat.zero_add] at g
  exact g
/-- to whom one is given, after n -/
def gd (v : Nat → Int) : Nat → Nat → Int
  | 0 => fun _ => 0
  | n + 1 => fun c => if c = (bst (fun c => if gd v n c = 0 then v c else 0) 9).toNat ∧ ¬ bst (fun c => if gd v n c = 0 then v c else 0) 9 = -1 then gd v n c + 1 else gd v n c
/-- the rests that are left -/
def gw_ (v : Nat → Int) (n c : Nat) : Int := if gd v n c = 0 then v c else 0
theorem gd_s (v : Nat → Int) (n c : Nat) : gd v (n + 1) c = if c = (bst (gw_ v n) 9).toNat ∧ ¬ bst (gw_ v n) 9 = -1 then gd v n c + 1 else gd v n c := rfl
theorem gd_b {v : Nat → Int} {n : Nat} (h : ¬ bst (gw_ v n) 9 = -1) : 0 ≤ bst (gw_ v n) 9 ∧ bst (gw_ v n) 9 < 9 ∧ gd v n (bst (gw_ v n) 9).toNat = 0 ∧ 0 < v (bst (gw_ v n) 9).toNat := by
  have r := bst_r (gw_ v n) 9
  have p := bst_top (v := gw_ v n) (m := 9) (by omega)
  have p1 := p.1
  unfold gw_ at p1
  refine ⟨by omega, by omega, ?_, ?_⟩
  · by_cases q : gd v n (bst (gw_ v n) 9).toNat = 0
    · exact q
    · exfalso
      unfold gw_ at q
      rw [if_neg q] at p1
      omega
  · by_cases q : gd v n (bst (gw_ v n) 9).toNat = 0
    · unfold gw_ at q ⊢
      rw [if_pos q] at p1
      exact p1
    · unfold gw_ at q
      rw [if_neg q] at p1
      omega
theorem gd_01 (v : Nat → Int) : ∀ n c : Nat, (gd v n c = 0 ∨ gd v n c = 1) ∧ (gd v n c = 1 → 0 < v c) := by
  intro n
  induction n with
  | zero => exact fun c => ⟨.inl rfl, fun h => absurd (show (0 : Int) = 1 from h) (by decide)⟩
  | succ n ih =>
    intro c
    rw [gd_s]
    by_cases q : c = (bst (gw_ v n) 9).toNat ∧ ¬ bst (gw_ v n) 9 = -1
    · obtain ⟨-, -, g3, g4⟩ := gd_b q.2
      rw [if_pos q, q.1, g3]
      exact ⟨.inr rfl, fun _ => g4⟩
    · rw [if_neg q]
      exact ih c
theorem gd_top (v : Nat → Int) : ∀ n a b : Nat, a < 9 → b < 9 → gd v n a = 1 → gd v n b = 0 → v b < v a ∨ (v b = v a ∧ a < b) := by
  intro n
  induction n with
  | zero => exact fun a b _ _ h => absurd (show (0 : Int) = 1 from h) (by decide)
  | succ n ih =>
    intro a b ha hb h1 h0
    rw [gd_s] at h1 h0
    have b0 : gd v n b = 0 ∧ ¬ (b = (bst (gw_ v n) 9).toNat ∧ ¬ bst (gw_ v n) 9 = -1) := by
      by_cases q : b = (bst (gw_ v n) 9).toNat ∧ ¬ bst (gw_ v n) 9 = -1
      · rw [if_pos q] at h0
        have := (gd_01 v n b).1
        omega
      · rw [if_neg q] at h0
        exact ⟨h0, q⟩
    by_cases q : a = (bst (gw_ v n) 9).toNat ∧ ¬ bst (gw_ v n) 9 = -1
    · obtain ⟨g1, g2, g3, g4⟩ := gd_b q.2
      have p := bst_top (v := gw_ v n) (m := 9) g1
      have va : gw_ v n (bst (gw_ v n) 9).toNat = v a := by
        rw [← q.1]
        rw [← q.1] at g3
        exact if_pos g3
      have vb : gw_ v n b = v b := if_pos b0.1
      have p2 := p.2.1 b hb
      rw [va, vb] at p2
      by_cases lt : b < a
      · have p3 := p.2.2 b (by omega)
        rw [va, vb] at p3
        exact .inl p3
      · have ne : ¬ b = a := fun t => b0.2 ⟨t.trans q.1, q.2⟩
        omega
    · rw [if_neg q] at h1
      exact ih a b ha hb h1 b0.1
theorem gd_sum (v : Nat → Int) (n : Nat) : sg (gd v (n + 1)) 9 = sg (gd v n) 9 + if bst (gw_ v n) 9 = -1 then 0 else 1 := by
  by_cases q : bst (gw_ v n) 9 = -1
  · rw [if_pos q, Int.add_zero]
    exact sg_eq fun c _ => by rw [gd_s, if_neg (fun t => t.2 q)]
  · obtain ⟨g1, g2, g3, g4⟩ := gd_b q
    rw [if_neg q]
    refine sg_updn (i := (bst (gw_ v n) 9).toNat) (by omega) ?_ (fun c _ hc => ?_)
    · rw [gd_s, if_pos ⟨rfl, q⟩]
    · rw [gd_s, if_neg (fun t => hc t.1)]
theorem gd_le (v : Nat → Int) : ∀ n, sg (gd v n) 9 ≤ n
  | 0 => by
    have : sg (gd v 0) 9 = 0 := sg_0 (fun _ _ => rfl)
    omega
  | n + 1 => by
    rw [gd_sum]
    have := gd_le v n
    split <;> omega
theorem gd_stop {v : Nat → Int} {n : Nat} (q : bst (gw_ v n) 9 = -1) : ∀ k, gd v (n + k) = gd v n
  | 0 => rfl
  | k + 1 => by
    have e := gd_stop q k
    have w : gw_ v (n + k) = gw_ v n := by
      unfold gw_
      rw [e]
    funext c
    show gd v (n + k + 1) c = _
    rw [gd_s, w, if_neg (fun t => t.2 q), e]
/-- while fewer are given than there are, one more is -/
theorem gd_go {v : Nat → Int} {n N : Nat} (h : sg (gd v N) 9 = N) (hn : n < N) : ¬ bst (gw_ v n) 9 = -1 := fun q => by
  have e := gd_stop q (N - n)
  rw [show n + (N - n) = N by omega] at e
  rw [e] at h
  have := gd_le v n
  omega
theorem gcn_s (t r : Nat) : ∀ (n : Nat) (s : gx_S), gcn s t r (n + 1) = gc1 (gcn s t r n) t r
  | 0, _ => rfl
  | n + 1, s => gcn_s t r n (gc1 s t r)
theorem gcn_gd {t r : Nat} {s : gx_S} (h : ∀ c, c < 9 → s.1 (t + 8) (9 * r + c) = s.1 (t + 6) (9 * r + c)) : ∀ (n c : Nat), c < 9 → (gcn s t r n).1 (t + 8) (9 * r + c) = s.1 (t + 6) (9 * r + c) + gd (fun c => s.1 (t + 7) (9 * r + c)) n c := by
  intro n
  induction n with
  | zero => exact fun c hc => (h c hc).trans (Int.add_zero _).symm
  | succ n ih =>
    intro c hc
    have e : bst (vc (gcn s t r n) t r) 9 = bst (gw_ (fun c => s.1 (t + 7) (9 * r + c)) n) 9 := bst_eq fun k hk => by
      unfold vc gw_
      rw [ih k hk, gcn_o t r n s _ _ (by omega), gcn_o t r n s _ _ (by omega)]
      by_cases q : gd (fun c => s.1 (t + 7) (9 * r + c)) n k = 0
      · rw [if_pos q, if_pos (by omega)]
      · rw [if_neg q, if_neg (by omega)]
    rw [gcn_s, gd_s]
    unfold gc1
    rw [e]
    by_cases q : bst (gw_ (fun c => s.1 (t + 7) (9 * r + c)) n) 9 = -1
    · rw [if_pos q, if_neg (fun t => t.2 q)]
      exact ih c hc
    · rw [if_neg q, gw1_1]
      by_cases q2 : c = (bst (gw_ (fun c => s.1 (t + 7) (9 * r + c)) n) 9).toNat
      · rw [if_pos (by omega), if_pos ⟨q2, q⟩, ← q2, ih c hc, Int.add_assoc]
      · rw [if_neg (by omega), if_neg (fun t => q2 t.1)]
        exact ih c hc
theorem cc_flv {P : Nat → Int} {A : Nat → Nat → Int} {x y : Nat} (hy : y < 9) : aw (cc P A) 74 x = vt A x ∧ af (cc P A) 74 x y = flv P A x y ∧ ar (cc P A) 74 x y = rsv P A x y := by
  have w : aw (cc P A) 74 x = vt A x := sg_eq fun c hc => cc_am P A hc
  refine ⟨w, ?_, ?_⟩
  · unfold af flv
    rw [w, cc_am P A hy]
    rfl
  · unfold ar rsv
    rw [w, cc_am P A hy]
    rfl
/-- how many are left to give -/
def lf (P : Nat → Int) (A : Nat → Nat → Int) (x : Nat) : Int := if vt A x ≤ 0 then 0 else P x - sg (flv P A x) 9
/-- a row by remainders -/
theorem TB_gd {P : Nat → Int} {A : Nat → Nat → Int} (h : PA P A) {x : Nat} (hx : x < 8) : (∀ y, y < 9 → TB 0 P A x y = flv P A x y + gd (rsv P A x) (lf P A x).toNat y) ∧ sg (gd (rsv P A x) (lf P A x).toNat) 9 = (lf P A x).toNat ∧ 0 ≤ lf P A x := by
  obtain ⟨v, u, v1, u1, u2, u3, u4, u5⟩ := sp_41_0 (t := 74) (by decide +kernel) (cc_tf h)
  obtain ⟨v', w1, w2, w3, w4, w5, w6⟩ := sp_70 (t := 74) (by decide +kernel) (cc_tf h)
  have ev : v' = v := Option.some.inj (w1.symm.trans v1)
  rw [ev] at w4
  have tb : ∀ y, TB 0 P A x y = u.1 82 (9 * x + y) := fun y => by
    unfold TB
    rw [u1]
  obtain ⟨-, l1, c1⟩ := w4 x hx
  have fl : ∀ y, y < 9 → v.1 (74 + 6) (9 * x + y) = flv P A x y := fun y hy => (c1 y hy).2.1.trans (cc_flv hy).2.1
  have l2 : lo v 74 x = lf P A x := by
    rw [l1]
    unfold lf
    rw [(cc_flv (P := P) (A := A) (x := x) (y := 0) (by omega)).1, sg_eq (fun y hy => (cc_flv (P := P) (A := A) (x := x) hy).2.1)]
    rfl
  have g : ∀ y, y < 9 → TB 0 P A x y = flv P A x y + gd (rsv P A x) (lf P A x).toNat y := fun y hy => by
    have e := u3 x y hx hy
    rw [gcn_gd (fun c hc => (c1 c hc).2.2.2.trans (c1 c hc).2.1.symm) _ y hy, fl y hy, l2] at e
    rw [tb y, e]
    congr 1
    have gen : ∀ (n : Nat) (a b : Nat → Int), (∀ c, c < 9 → a c = b c) → ∀ c, gd a n c = gd b n c := by
      intro n
      induction n with
      | zero => exact fun _ _ _ _ => rfl
      | succ n ih =>
        intro a b hab c
        have e : bst (gw_ a n) 9 = bst (gw_ b n) 9 := bst_eq fun k hk => by
          unfold gw_
          rw [ih a b hab k, hab k hk]
        rw [gd_s, gd_s, e, ih a b hab c]
    exact gen _ _ _ (fun c hc => (c1 c hc).2.2.1.trans (cc_flv hc).2.2) y
  have t0 := (TB_0 (.inl rfl) h (fun t => absurd t (by decide))).2 x hx
  rw [sg_eq g, sg_add] at t0
  have vn : 0 ≤ vt A x := sg_nn fun y hy => (h.2.1 x y hx hy).1
  have l0 : 0 ≤ lf P A x := by
    unfold lf
    by_cases q : vt A x ≤ 0
    · rw [if_pos q]; omega
    · rw [if_neg q]
      have q2 : ¬ sg (fun y => A x y) 9 ≤ 0 := q
      rw [if_neg q2] at t0
      have s0 := sg_nn (f := gd (rsv P A x) (lf P A x).toNat) (n := 9) (fun c _ => by have := (gd_01 (rsv P A x) (lf P A x).toNat c).1; omega)
      have t1 : sg (flv P A x) 9 + sg (gd (rsv P A x) (lf P A x).toNat) 9 = P x := t0
      omega
  refine ⟨g, ?_, l0⟩
  have t1 : sg (flv P A x) 9 + sg (gd (rsv P A x) (lf P A x).toNat) 9 = if vt A x ≤ 0 then 0 else P x := t0
  rw [Int.toNat_of_nonneg l0]
  unfold lf at t1 ⊢
  by_cases q : vt A x ≤ 0
  · rw [if_pos q] at t1 ⊢
    have z : sg (flv P A x) 9 = 0 := sg_0 fun y _ => if_pos q
    rw [z] at t1
    rw [if_pos q] at t1
    omega
  · rw [if_neg q] at t1 ⊢
    rw [if_neg q] at t1
    omega
/-- a table's entry: rounded down, or one more where there is a rest -/
theorem TB_e {md : Int} {P : Nat → Int} {A : Nat → Nat → Int} (hmd : md = 0 ∨ md = 1) (h : PA P A) (h8 : sg (fun x => sg (fun y => A x y) 9) 8 ≤ 864) : ∃ T : Nat → Nat → Int, (∀ x y, x < 8 → y < 9 → TB md P A x y = flv P A x y + T x y ∧ (T x y = 0 ∨ T x y = 1) ∧ (T x y = 1 → 0 < rsv P A x y)) ∧ (md = 0 → ∀ x a b, x < 8 → a < 9 → b < 9 → T x a = 1 → T x b = 0 → rsv P A x b < rsv P A x a ∨ (rsv P A x b = rsv P A x a ∧ a < b)) ∧ (md = 1 → ∀ y, y < 9 → sg (Tx P A y (cm (vt A) 8 : Nat)) 8 / (cm (vt A) 8 : Nat) ≤ sg (fun x => T x y) 8 ∧ sg (fun x => T x y) 8 ≤ sg (Tx P A y (cm (vt A) 8 : Nat)) 8 / (cm (vt A) 8 : Nat) + if sg (Tx P A y (cm (vt A) 8 : Nat)) 8 % (cm (vt A) 8 : Nat) = 0 then 0 else 1) := by
  rcases hmd with rfl | rfl
  · refine ⟨fun x => gd (rsv P A x) (lf P A x).toNat, fun x y hx hy => ⟨(TB_gd h hx).1 y hy, gd_01 _ _ _⟩, fun _ x a b _ ha hb => gd_top _ _ a b ha hb, fun t => absurd t (by decide)⟩
  · have tf8 : sg (aw (cc P A) 74) 8 ≤ 864 := by
      rw [sg_eq (g := fun x => sg (fun y => A x y) 9) (fun x _ => (cc_flv (P := P) (A := A) (x := x) (y := 0) (by omega)).1)]
      exact h8
    obtain ⟨v, u, v1, u1, u2, u3, u4, u5⟩ := sp_41_1 (t := 74) (by decide +kernel) (cc_tf h) tf8
    obtain ⟨v', w1, w2, w3, w4, w5, w6⟩ := sp_70 (t := 74) (by decide +kernel) (cc_tf h)
    have ev : v' = v := Option.some.inj (w1.symm.trans v1)
    rw [ev] at w4
    have tb : ∀ x y, TB 1 P A x y = u.1 82 (9 * x + y) := fun x y => by
      unfold TB
      rw [u1]
    obtain ⟨⟨f1, f2, f3⟩, -⟩ := u2
    have v2 : ∀ r, r < 8 → v.1 (74 + 2) r = vt A r := fun r hr => (w4 r hr).1.trans (cc_flv (P := P) (A := A) (x := r) (y := 0) (by omega)).1
    have v7 : ∀ r c, r < 8 → c < 9 → v.1 (74 + 7) (9 * r + c) = rsv P A r c := fun r c hr hc => ((w4 r hr).2.2 c hc).2.2.1.trans (cc_flv hc).2.2
    have v6 : ∀ r c, r < 8 → c < 9 → v.1 (74 + 6) (9 * r + c) = flv P A r c := fun r c hr hc => ((w4 r hr).2.2 c hc).2.1.trans (cc_flv hc).2.1
    have K : cm (v.1 (74 + 2)) 8 = cm (vt A) 8 := cm_c v2
    have ro_ : ∀ c, c < 9 → ro v 74 c (cm (v.1 (74 + 2)) 8 : Nat) = sg (Tx P A c (cm (vt A) 8 : Nat)) 8 := fun c hc => by
      unfold ro
      rw [K]
      exact sg_eq fun r hr => by rw [v2 r hr, v7 r c hr hc]; rfl
    refine ⟨fun x y => u.1 8 (9 * x + y), fun x y hx hy => ⟨?_, (f1 _ (by omega)).1, fun t => ?_⟩, fun t => absurd t (by decide), fun _ y hy => ?_⟩
    · rw [tb, ← v6 x y hx hy]
      exact u4 _ (by omega)
    · have t' : u.1 8 (9 * x + y) = 1 := t
      have q := (f1 (9 * x + y) (by omega)).2
      unfold fr at q
      rw [v7 x y hx hy] at q
      by_cases q2 : rsv P A x y ≤ 0
      · rw [if_pos q2] at q
        omega
      · omega
    · have q := f3 y hy
      unfold ms ls at q
      rw [ro_ y hy, K] at q
      exact q
