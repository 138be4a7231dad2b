/-! THE REFERENCE's BALANCED TABLE: it is the first that comes right -/
abbrev ins (R m i : Nat) : Prop := i / 9 < R ∧ i % 9 < m
theorem ins_i {R m x y : Nat} (hx : x < R) (hy : y < m) (m9 : m ≤ 9) : ins R m (9 * x + y) := by unfold ins; omega
def Fq (s : gx_S) (R m i : Nat) : Int := if ins R m i ∧ 0 < rsq s i then 1 else 0
def Wq (s : gx_S) (R m r : Nat) : Int := if r < R then loq s m r else 0
def Sq (s : gx_S) (R : Nat) (K : Int) (c : Nat) : Int := sg (fun r => if rsq s (9 * r + c) ≤ 0 then 0 else rsq s (9 * r + c) * (K / s.1 223 r)) R
def Lq (s : gx_S) (R m : Nat) (K : Int) (c : Nat) : Int := if c < m then Sq s R K c / K else 0
def Oq (s : gx_S) (R m : Nat) (K : Int) (c : Nat) : Int := if c < m then Sq s R K c / K + (if Sq s R K c % K = 0 then 0 else 1) else 0
/-- the reference's own cells for tables are within their ranges -/
def SC (s : gx_S) : Prop := (∀ j, j < 72 → (s.1 232 j = 0 ∨ s.1 232 j = 1) ∧ (s.1 233 j = 0 ∨ s.1 233 j = 1) ∧ (s.1 234 j = 0 ∨ s.1 234 j = 1) ∧ (0 ≤ s.2 225 j ∧ s.2 225 j ≤ 1000000000)) ∧ (∀ c, c < 9 → (s.1 235 c = 0 ∨ s.1 235 c = 1) ∧ (-900 ≤ s.2 229 c ∧ s.2 229 c ≤ 900) ∧ (-1000 ≤ s.2 230 c ∧ s.2 230 c ≤ 1000) ∧ (0 ≤ s.2 227 c ∧ s.2 227 c ≤ 9) ∧ (0 ≤ s.2 228 c ∧ s.2 228 c ≤ 9)) ∧ ∀ k, k < 8 → -1000 ≤ s.2 231 k ∧ s.2 231 k ≤ 1000
/-- what fills may change -/
def rc (s u : gx_S) : Prop := (∀ k i, k ≠ 223 → k ≠ 232 → k ≠ 233 → k ≠ 234 → k ≠ 235 → u.1 k i = s.1 k i) ∧ ∀ k i, ¬ (k = 215 ∧ (i = 29 ∨ i = 30)) → ¬ (224 ≤ k ∧ k ≤ 231) → u.2 k i = s.2 k i
theorem FE_FEr {s d : gx_S} {R m : Nat} {K : Int} {T : Nat → Int} (R8 : R ≤ 8) (m9 : m ≤ 9) (h5 : ∀ x y, x < R → y < m → d.2 225 (9 * x + y) = rsq s (9 * x + y)) (h6 : ∀ x, x < R → d.2 226 x = loq s m x) (h7 : ∀ y, y < m → d.2 227 y = Lq s R m K y ∧ d.2 228 y = Oq s R m K y) (h : FE (Lq s R m K) (Oq s R m K) (Fq s R m) (Wq s R m) T) : FEr d R m T := by
  have z : ∀ i, i < 72 → ¬ ins R m i → T i = 0 := fun i hi n => by
    obtain ⟨a, b⟩ := h.1 i hi
    rw [show Fq s R m i = 0 from if_neg fun x => n x.1] at b
    omega
  refine ⟨fun r c hr hc => ⟨(h.1 _ (by omega)).1, fun e => ?_⟩, fun r hr => ?_, fun c hc => ?_⟩
  · have b := (h.1 (9 * r + c) (by omega)).2
    rw [e] at b
    rw [h5 r c hr hc]
    unfold Fq at b
    by_cases q : ins R m (9 * r + c) ∧ 0 < rsq s (9 * r + c)
    · exact q.2
    · rw [if_neg q] at b
      omega
  · rw [h6 r hr]
    have a := h.2.1 r (by omega)
    rw [show Wq s R m r = loq s m r from if_pos hr] at a
    rw [← a]
    exact (sg_cut0 m9 fun k h1 h2 => z _ (by omega) (by unfold ins; omega)).symm
  · have a := h.2.2 c (by omega)
    rw [(h7 c hc).1, (h7 c hc).2]
    rw [sg_cut0 (f := fun r => T (9 * r + c)) R8 fun k h1 h2 => z _ (by omega) (by unfold ins; omega)] at a
    exact a
theorem FEr_FE {s d : gx_S} {R m : Nat} {K : Int} {T : Nat → Int} (R8 : R ≤ 8) (m9 : m ≤ 9) (h5 : ∀ x y, x < R → y < m → d.2 225 (9 * x + y) = rsq s (9 * x + y)) (h6 : ∀ x, x < R → d.2 226 x = loq s m x) (h7 : ∀ y, y < m → d.2 227 y = Lq s R m K y ∧ d.2 228 y = Oq s R m K y) (h : FEr d R m T) : FE (Lq s R m K) (Oq s R m K) (Fq s R m) (Wq s R m) (fun i => if ins R m i then T i else 0) := by
  have y0 : ∀ r c, ¬ (r < R ∧ c < m) → c < 9 → (if ins R m (9 * r + c) then T (9 * r + c) else 0) = 0 := fun r c h hc => if_neg (by unfold ins; omega)
  have y1 : ∀ r c, r < R → c < m → (if ins R m (9 * r + c) then T (9 * r + c) else 0) = T (9 * r + c) := fun r c hr hc => if_pos (ins_i hr hc m9)
  refine ⟨fun i hi => ?_, fun r hr => ?_, fun c hc => ?_⟩
  · show ((if ins R m i then T i else 0) = 0 ∨ (if ins R m i then T i else 0) = 1) ∧ (if ins R m i then T i else 0) ≤ Fq s R m i
    unfold Fq
    by_cases q : ins R m i
    · have e : 9 * (i / 9) + i % 9 = i := by omega
      obtain ⟨a, b⟩ := h.1 (i / 9) (i % 9) q.1 q.2
      have d5 := h5 (i / 9) (i % 9) q.1 q.2
      rw [e] at a b d5
      rw [if_pos q]
      refine ⟨a, ?_⟩
      by_cases q2 : 0 < rsq s i
      · rw [if_pos ⟨q, q2⟩]
        omega
      · rw [if_neg (fun x => q2 x.2)]
        rcases a with a | a
        · omega
        · have := b a
          omega
    · rw [if_neg q, if_neg (fun x => q x.1)]
      exact ⟨.inl rfl, Int.le_refl 0⟩
  · by_cases q : r < R
    · rw [show Wq s R m r = loq s m r from if_pos q, ← h6 r q, ← h.2.1 r q, sg_cut0 m9 fun k h1 h2 => y0 r k (by omega) h2]
      exact sg_eq fun c hc => y1 r c q hc
    · rw [show Wq s R m r = 0 from if_neg q]
      exact sg_0 fun c hc => y0 r c (by omega) hc
  · by_cases q : c < m
    · rw [← (h7 c q).1, ← (h7 c q).2, sg_cut0 R8 fun k h1 h2 => y0 k c (by omega) hc, sg_eq (g := fun r => T (9 * r + c)) fun r hr => y1 r c hr q]
      exact h.2.2 c q
    · rw [show Lq s R m K c = 0 from if_neg q, show Oq s R m K c = 0 from if_neg q, sg_0 fun r hr => y0 r c (by omega) hc]
      exact ⟨Int.le_refl 0, Int.le_refl 0⟩
theorem rsq_B {s : gx_S} {R m : Nat} (P : PR s R m) {x y : Nat} (hx : x < R) (hy : y < m) : 0 ≤ rsq s (9 * x + y) ∧ rsq s (9 * x + y) ≤ s.1 223 x := by
  have w := PR_w P hx
  have m9 := P.2.2.2.1
  unfold rsq
  rw [show (9 * x + y) / 9 = x by omega]
  by_cases z : s.1 223 x = 0
  · rw [if_pos z]
    omega
  · rw [if_neg z]
    exact ⟨Int.emod_nonneg _ z, Int.le_of_lt (Int.emod_lt_of_pos _ (by omega))⟩
theorem sp_172 {R m K : Nat} {s : gx_S} (P : PR s R m) (S : SC s) (hK : 0 < K ∧ K ≤ 20000000000000000) (hd : ∀ r, r < R → s.1 223 r ≤ 1000000 ∧ (0 < s.1 223 r → (s.1 223 r).toNat ∣ K)) (hW : ∀ r, r < R → 0 ≤ loq s m r ∧ loq s m r ≤ 9) (hT : ∃ T, FE (Lq s R m K) (Oq s R m K) (Fq s R m) (Wq s R m) T) : ∃ u : gx_S, gm_172 s = some u ∧ rc s u ∧ SC u ∧ LG (Lq s R m K) (Oq s R m K) (Fq s R m) (Wq s R m) (fun i => if ins R m i then u.2 224 i - flq s i else 0) ∧ (∀ i, ¬ ins R m i → u.2 224 i = s.2 224 i) ∧ ∀ i, u.1 223 i = s.1 223 i := by
  obtain ⟨p1, p2, R8, m9, p5⟩ := id P
  obtain ⟨a, a1, a2, a3, a4, a5, a6, a7⟩ := sl_172_2 100000 0 s (by omega) (by omega) P
  have aR : ∀ d, d < m → RT a R d K := fun d hd' r hr => by
    rw [a2, (a4 r d (by omega) hr hd').2]
    have x := rsq_B P hr hd'
    have y := hd r hr
    exact ⟨x.1, x.2, y⟩
  obtain ⟨b, b1, b2, b3, b4, b5⟩ := sl_172_29 (K := K) R8 m9 hK 100000 0 a (by omega) (by omega) (by rw [a2]; exact p1) (by rw [a2]; exact p2) aR
  obtain ⟨d, d1, d2, d3, d4⟩ := sl_172_50 100000 0 b (by omega) (by omega)
  have a1 : gm_172_2 100000 0 s = _ := a1
  have b1 : gm_172_29 100000 0 a = _ := b1
  have d1 : gm_172_50 100000 0 b = _ := d1
  have dk : ∀ k i, k ≠ 233 → d.1 k i = s.1 k i := fun k i h => by rw [d3 k i h, b2, a2]
  have d24 : ∀ i, d.2 224 i = a.2 224 i := fun i => by rw [d2, b3 224 i (by omega) (by decide) (by decide)]
  have d25 : ∀ i, d.2 225 i = a.2 225 i := fun i => by rw [d2, b3 225 i (by omega) (by decide) (by decide)]
  have h5 : ∀ x y, x < R → y < m → d.2 225 (9 * x + y) = rsq s (9 * x + y) := fun x y hx hy => by rw [d25, (a4 x y (by omega) hx hy).2]
  have h6 : ∀ x, x < R → d.2 226 x = loq s m x := fun x hx => by rw [d2, b3 226 x (by omega) (by decide) (by decide), a5 x (by omega) hx]
  have eS : ∀ y, y < m → sg (rr a y K) R = Sq s R K y := fun y hy => sg_eq fun r hr => by
    unfold rr
    rw [a2, (a4 r y (by omega) hr hy).2]
  have h7 : ∀ y, y < m → d.2 227 y = Lq s R m K y ∧ d.2 228 y = Oq s R m K y := fun y hy => by
    obtain ⟨x1, x2⟩ := b4 y (by omega) hy
    rw [d2, x1, x2, eS y hy]
    exact ⟨(if_pos hy).symm, (if_pos hy).symm⟩
  have SB : ∀ y, y < m → 0 ≤ Sq s R K y / (K : Int) ∧ Sq s R K y / (K : Int) ≤ 8 := fun y hy => by
    rw [← eS y hy]
    refine div8 (by omega) (sg_nn fun r hr => (rr_B (aR y hy) r hr).1) ?_
    have q := sg_le (f := rr a y K) (g := fun _ => (K : Int) * 1) (n := R) fun k hk => by
      show rr a y K k ≤ (K : Int) * 1
      have := (rr_B (aR y hy) k hk).2
      omega
    rw [sg_mul, sg_one] at q
    have w : (K : Int) * (R : Int) ≤ K * 8 := Int.mul_le_mul_of_nonneg_left (by omega) (by omega)
    omega
  have d78 : ∀ y, y < 9 → (0 ≤ d.2 227 y ∧ d.2 227 y ≤ 9) ∧ 0 ≤ d.2 228 y ∧ d.2 228 y ≤ 9 := fun y hy => by
    by_cases q : y < m
    · obtain ⟨x1, x2⟩ := h7 y q
      have x3 := SB y q
      rw [x1, x2, show Lq s R m K y = _ from if_pos q, show Oq s R m K y = _ from if_pos q]
      split <;> omega
    · obtain ⟨x1, x2⟩ := b5 y (by omega)
      have x3 := S.2.1 y hy
      rw [d2, x1, x2, a3 227 y (by decide) (by decide) (by decide), a3 228 y (by decide) (by decide) (by decide)]
      exact x3.2.2.2
  have dB : RB d R m := by
    refine ⟨fun j hj => ⟨?_, ?_, ?_⟩, fun c hc => ?_, by rw [dk 215 17 (by decide)]; exact p1, by rw [dk 215 18 (by decide)]; exact p2, R8, m9⟩
    · rw [dk 232 j (by decide)]
      exact (S.1 j hj).1
    · rw [d4 j hj, if_pos (by omega)]
      exact .inl rfl
    · rw [d25]
      by_cases q : ins R m j
      · have e : 9 * (j / 9) + j % 9 = j := by omega
        have x := (a4 (j / 9) (j % 9) (by omega) q.1 q.2).2
        have y := rsq_B P q.1 q.2
        have w := PR_w P q.1
        rw [e] at x y
        omega
      · rw [(a6 j fun x y _ hx hy e => q (e ▸ ins_i hx hy m9)).2]
        exact (S.1 j hj).2.2.2
    · have x := S.2.1 c hc
      rw [dk 235 c (by decide), d2, b3 229 c (by omega) (by decide) (by decide), b3 230 c (by omega) (by decide) (by decide), a3 229 c (by decide) (by decide) (by decide), a3 230 c (by decide) (by decide) (by decide)]
      omega
  have dW : WB d := fun k hk => by
    rw [d2, b3 231 k (by omega) (by decide) (by decide), a3 231 k (by decide) (by decide) (by decide)]
    exact S.2.2 k hk
  have dC : C01 d := fun j hj => by
    rw [d4 j hj, if_pos (by omega), dk 234 j (by decide)]
    exact ⟨.inl rfl, (S.1 j hj).2.2.1⟩
  have ev0 : ∀ x y, ¬ ev 0 0 x y := fun x y => by unfold ev; omega
  obtain ⟨T, hT⟩ := hT
  have C0 : CI d d R m 0 0 := by
    refine ⟨⟨fun _ _ _ _ _ _ => rfl, fun _ _ _ _ _ _ => rfl⟩, ⟨dB, dW, dC⟩, fun x y hx hy => ⟨?_, fun h => ?_, ?_⟩, fun _ _ => rfl, ⟨T, FE_FEr R8 m9 h5 h6 h7 hT, fun x y _ _ h => absurd h (ev0 x y)⟩, fun _ _ x y _ _ h => absurd h (ev0 x y)⟩
    · rw [d4 _ (by omega), if_pos (by omega), if_neg (ev0 x y)]
    · rw [d4 _ (by omega), if_pos (by omega)] at h
      exact absurd h (by decide)
    · rw [if_neg (ev0 x y)]
      omega
  obtain ⟨t, t1, c1, ⟨cB, cW, cC⟩, c3, c4, ⟨T0, c5, c5'⟩, c6⟩ := sl_172_71 (fun r hr => by rw [h6 r hr]; exact hW r hr) d78 100000 0 d (by omega) (by omega) C0
  have t1 : gm_172_71 100000 0 d = _ := t1
  have eR : ∀ x y, x < R → ev R 0 x y := fun x y h => .inl h
  have tM : ∀ x y, x < R → y < m → t.2 224 (9 * x + y) - flq s (9 * x + y) = t.1 234 (9 * x + y) := fun x y hx hy => by
    have q := (c3 x y hx hy).2.2
    rw [if_pos (eR x y hx), d24, (a4 x y (by omega) hx hy).1] at q
    omega
  refine ⟨t, ?_, ⟨fun k i h1 h2 h3 h4 h5 => ?_, fun k i h1 h2 => ?_⟩, ⟨fun j hj => ?_, fun c hc => ?_, cW⟩, ⟨FE_c (FEr_FE R8 m9 h5 h6 h7 c5) (fun _ _ => rfl) (fun _ _ => rfl) (fun _ _ => rfl) (fun _ _ => rfl) fun i hi => ?_, fun T' hT' j hj hj' => ?_⟩, fun i h => ?_, fun i => ?_⟩
  · unfold gm_172
    rw [a1, b1, d1, t1]
  · rw [c1.1 k i h2 h3 h4 h5, dk k i h3]
  · rw [c1.2 k i (by omega) (by omega) (by omega) (by omega), d2, b3 k i h1 (by omega) (by omega), a3 k i (by omega) (by omega) (by omega)]
  · exact ⟨(cB.1 j hj).1, (cC j hj).1, (cC j hj).2, (cB.1 j hj).2.2⟩
  · have x := cB.2.1 c hc
    have y := d78 c hc
    rw [c1.2 227 c (by decide) (by decide) (by decide) (by decide), c1.2 228 c (by decide) (by decide) (by decide) (by decide)]
    exact ⟨x.1, ⟨x.2.1, x.2.2.1⟩, x.2.2.2, y⟩
  · show (if ins R m i then _ else _) = (if ins R m i then _ else _)
    by_cases q : ins R m i
    · have e : 9 * (i / 9) + i % 9 = i := by omega
      have x := tM (i / 9) (i % 9) q.1 q.2
      have y := c5' (i / 9) (i % 9) q.1 q.2 (eR _ _ q.1)
      rw [e] at x y
      rw [if_pos q, if_pos q, x, y]
    · rw [if_neg q, if_neg q]
  · show T' j ≤ (if ins R m j then _ else _)
    by_cases q : ins R m j
    · have e : 9 * (j / 9) + j % 9 = j := by omega
      have x := tM (j / 9) (j % 9) q.1 q.2
      have y := c6 T' (FE_FEr R8 m9 h5 h6 h7 hT') (j / 9) (j % 9) q.1 q.2 (eR _ _ q.1) fun x' y' hx' hy' h' => by
        have z := hj' (9 * x' + y') (by unfold ev at h'; omega)
        rw [z]
        show (if ins R m (9 * x' + y') then _ else _) = _
        rw [if_pos (ins_i hx' hy' m9), tM x' y' hx' hy']
      rw [e] at x y
      rw [if_pos q, x]
      exact y
    · rw [if_neg q]
      have z := (hT'.1 j hj).2
      rw [show Fq s R m j = 0 from if_neg fun x => q x.1] at z
      exact z
  · rw [c4 i fun x y hx hy e => h (e ▸ ins_i hx hy m9), d24, (a6 i fun x y _ hx hy e => h (e ▸ ins_i hx hy m9)).1]
  · rw [c1.1 223 i (by decide) (by decide) (by decide) (by decide), dk 223 i (by decide)]
