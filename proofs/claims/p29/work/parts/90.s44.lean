/-! THE REFERENCE's BALANCED TABLE: balances' loops -/
theorem sl_172_81 {s0 : gx_S} {R m r : Nat} (k : Int → gx_S → Option gx_S) (hr : r < R) (h6 : ∀ r, r < R → 0 ≤ s0.2 226 r ∧ s0.2 226 r ≤ 9) (h7 : ∀ c, c < 9 → (0 ≤ s0.2 227 c ∧ s0.2 227 c ≤ 9) ∧ 0 ≤ s0.2 228 c ∧ s0.2 228 c ≤ 9) : ∀ (n c : Nat) (s : gx_S), m < n + c → c ≤ m → CI s0 s R m r c → ∃ t : gx_S, gm_172_81 k n r c s = k ((r + 1 : Nat) : Int) t ∧ CI s0 t R m (r + 1) 0 := by
  intro n
  induction n with
  | zero => intro c s h; omega
  | succ n ih =>
    intro c s h hc X
    have m9 : m ≤ 9 := X.2.1.1.2.2.2.2.2
    have k4 : s.1 215 18 = m := X.2.1.1.2.2.2.1
    by_cases q : c = m
    · refine ⟨s, ?_, CI_row (q ▸ X)⟩
      rw [gm_172_81, k4, q]
      have ce : ((r : Int) + 1) = ((r + 1 : Nat) : Int) := rfl
      simp (disch := omega) only [if_pos, ce]
    · obtain ⟨t, t1, t2⟩ := CI_81 k n hr (by omega) X h6 h7
      rw [t1]
      exact ih (c + 1) t (by omega) (by omega) t2
theorem sl_172_71 {s0 : gx_S} {R m : Nat} (h6 : ∀ r, r < R → 0 ≤ s0.2 226 r ∧ s0.2 226 r ≤ 9) (h7 : ∀ c, c < 9 → (0 ≤ s0.2 227 c ∧ s0.2 227 c ≤ 9) ∧ 0 ≤ s0.2 228 c ∧ s0.2 228 c ≤ 9) : ∀ (n r : Nat) (s : gx_S), R < n + r → r ≤ R → CI s0 s R m r 0 → ∃ t : gx_S, gm_172_71 n r s = some t ∧ CI s0 t R m R 0 := by
  intro n
  induction n with
  | zero => intro c s h; omega
  | succ n ih =>
    intro r s h hr X
    have m9 : m ≤ 9 := X.2.1.1.2.2.2.2.2
    have R8 : R ≤ 8 := X.2.1.1.2.2.2.2.1
    have k3 : s.1 215 17 = R := X.2.1.1.2.2.1
    rw [gm_172_71, k3, if_pos (by omega), if_pos (by omega)]
    by_cases q : r = R
    · rw [if_pos (by omega)]
      exact ⟨s, rfl, q ▸ X⟩
    · rw [if_neg (by omega)]
      obtain ⟨t, t1, t2⟩ := sl_172_81 (gm_172_71 n) (show r < R by omega) h6 h7 100000 0 s (by omega) (by omega) X
      have t1 : gm_172_81 (gm_172_71 n) 100000 r 0 s = _ := t1
      rw [t1]
      exact ih (r + 1) t (by omega) (by omega) t2
theorem sl_172_50 : ∀ (n j : Nat) (s : gx_S), 72 < n + j → j ≤ 72 → ∃ u : gx_S, gm_172_50 n j s = gm_172_71 100000 0 u ∧ u.2 = s.2 ∧ (∀ k i, k ≠ 233 → u.1 k i = s.1 k i) ∧ ∀ i, i < 72 → u.1 233 i = if j ≤ i then 0 else s.1 233 i := by
  intro n
  induction n with
  | zero => intro c s h; omega
  | succ n ih =>
    intro j s h hj
    by_cases q : j = 72
    · refine ⟨s, ?_, rfl, fun _ _ _ => rfl, fun i hi => by rw [if_neg (by omega)]⟩
      rw [gm_172_50, q]
      exact (if_pos (by decide)).trans (if_pos (by decide))
    · have i5 : ((j : Int)).toNat = j := by omega
      have ce : ((j : Int) + 1) = ((j + 1 : Nat) : Int) := rfl
      have g0 : gn2 0 = 0 := by decide
      obtain ⟨u, u1, u2, u3, u4⟩ := ih (j + 1) (gw1 s 233 j 0) (by omega) (by omega)
      refine ⟨u, ?_, u2, fun k i h => (u3 k i h).trans (by rw [gw1_1, if_neg (fun x => h x.1)]), fun i hi => ?_⟩
      · rw [← u1, gm_172_50]
        simp (disch := omega) only [if_pos, if_neg, i5, ce, g0]
      · rw [u4 i hi, gw1_1]
        by_cases q' : i = j
        · rw [if_neg (by omega), if_pos ⟨rfl, q'⟩, if_pos (by omega)]
        · by_cases q2 : j ≤ i
          · rw [if_pos (by omega), if_pos q2]
          · rw [if_neg (by omega), if_neg q2, if_neg (fun x => q' x.2)]
theorem sl_172_29 {R m K : Nat} (R8 : R ≤ 8) (m9 : m ≤ 9) (hK : 0 < K ∧ K ≤ 20000000000000000) : ∀ (n c : Nat) (s : gx_S), m < n + c → c ≤ m → s.1 215 17 = R → s.1 215 18 = m → (∀ d, d < m → RT s R d K) → ∃ u : gx_S, gm_172_29 n c s = gm_172_50 100000 0 u ∧ u.1 = s.1 ∧ (∀ k i, ¬ (k = 215 ∧ (i = 29 ∨ i = 30)) → k ≠ 227 → k ≠ 228 → u.2 k i = s.2 k i) ∧ (∀ d, c ≤ d → d < m → u.2 227 d = sg (rr s d K) R / K ∧ u.2 228 d = sg (rr s d K) R / K + if sg (rr s d K) R % K = 0 then 0 else 1) ∧ ∀ d, ¬ (c ≤ d ∧ d < m) → u.2 227 d = s.2 227 d ∧ u.2 228 d = s.2 228 d := by
  intro n
  induction n with
  | zero => intro c s h; omega
  | succ n ih =>
    intro c s h hc e17 e18 H
    rw [gm_172_29, e18, if_pos (by omega), if_pos (by omega)]
    by_cases q : c = m
    · rw [if_pos (by omega)]
      exact ⟨s, rfl, rfl, fun _ _ _ _ _ => rfl, fun d h1 h2 => by omega, fun d _ => ⟨rfl, rfl⟩⟩
    · have ce : ((c : Int) + 1) = ((c + 1 : Nat) : Int) := rfl
      obtain ⟨t, t1, t2, t3, t4, t5⟩ := sp_166 (s := s) R8 (show c < 9 by omega) hK e17 (H c (by omega))
      rw [if_neg (by omega), t1, Option.bind_some, ce]
      have t25 : ∀ i, t.2 225 i = s.2 225 i := fun i => t3 225 i (by omega) (by omega) (by omega)
      obtain ⟨u, u1, u2, u3, u4, u5⟩ := ih (c + 1) t (by omega) (by omega) (by rw [t2]; exact e17) (by rw [t2]; exact e18) fun d hd r hr => by
        rw [t2, t25]
        exact H d hd r hr
      refine ⟨u, u1, u2.trans t2, fun k i h1 h2 h3 => (u3 k i h1 h2 h3).trans (t3 k i h1 (fun x => h2 x.1) (fun x => h3 x.1)), fun d h1 h2 => ?_, fun d h1 => ?_⟩
      · by_cases q' : d = c
        · rw [q']
          obtain ⟨v1, v2⟩ := u5 c (by omega)
          rw [v1, v2]
          exact ⟨t4, t5⟩
        · have v := u4 d (by omega) h2
          rw [rr_o t2 t25 d (K : Int)] at v
          exact v
      · obtain ⟨v1, v2⟩ := u5 d (by omega)
        rw [v1, v2]
        exact ⟨t3 227 d (by omega) (by omega) (by omega), t3 228 d (by omega) (by omega) (by omega)⟩
/-- floors, rests, left over of the reference's rows -/
def flq (s : gx_S) (i : Nat) : Int := if s.1 223 (i / 9) = 0 then 0 else s.2 221 (i / 9) * s.1 222 i / s.1 223 (i / 9)
def rsq (s : gx_S) (i : Nat) : Int := if s.1 223 (i / 9) = 0 then 0 else s.2 221 (i / 9) * s.1 222 i % s.1 223 (i / 9)
def loq (s : gx_S) (m r : Nat) : Int := if s.1 223 r = 0 then 0 else s.2 221 r - sg (fun c => flq s (9 * r + c)) m
/-- the rows are ready: people, amounts, totals -/
def PR (s : gx_S) (R m : Nat) : Prop := s.1 215 17 = R ∧ s.1 215 18 = m ∧ R ≤ 8 ∧ m ≤ 9 ∧ ∀ r, r < R → (0 ≤ s.2 221 r ∧ s.2 221 r ≤ 1000000000) ∧ (∀ c, c < m → 0 ≤ s.1 222 (9 * r + c) ∧ s.1 222 (9 * r + c) ≤ 1000000) ∧ s.1 223 r = sg (fun c => s.1 222 (9 * r + c)) m
theorem PR_w {s : gx_S} {R m : Nat} (P : PR s R m) {r : Nat} (hr : r < R) : 0 ≤ s.1 223 r ∧ s.1 223 r ≤ 9000000 := by
  obtain ⟨p1, p2, p3, p4, p5⟩ := P
  obtain ⟨_, a, b⟩ := p5 r hr
  rw [b]
  refine ⟨sg_nn fun c hc => (a c hc).1, ?_⟩
  have x := sg_le (f := fun c => s.1 222 (9 * r + c)) (g := fun _ => 1000000 * 1) (n := m) fun c hc => by
    have := (a c hc).2
    show s.1 222 (9 * r + c) ≤ 1000000 * 1
    omega
  rw [sg_mul, sg_one] at x
  omega
theorem sl_172_2 {R m : Nat} : ∀ (n j : Nat) (s : gx_S), R < n + j → j ≤ R → PR s R m → ∃ u : gx_S, gm_172_2 n j s = gm_172_29 100000 0 u ∧ u.1 = s.1 ∧ (∀ k i, k ≠ 224 → k ≠ 225 → k ≠ 226 → u.2 k i = s.2 k i) ∧ (∀ x y, j ≤ x → x < R → y < m → u.2 224 (9 * x + y) = flq s (9 * x + y) ∧ u.2 225 (9 * x + y) = rsq s (9 * x + y)) ∧ (∀ x, j ≤ x → x < R → u.2 226 x = loq s m x) ∧ (∀ i, (∀ x y, j ≤ x → x < R → y < m → i ≠ 9 * x + y) → u.2 224 i = s.2 224 i ∧ u.2 225 i = s.2 225 i) ∧ ∀ i, ¬ (j ≤ i ∧ i < R) → u.2 226 i = s.2 226 i := by
  intro n
  induction n with
  | zero => intro j s h; omega
  | succ n ih =>
    intro j s h hj P
    obtain ⟨p1, p2, p3, p4, p5⟩ := id P
    rw [gm_172_2, p1, if_pos (by omega), if_pos (by omega)]
    by_cases q : j = R
    · rw [if_pos (by omega)]
      exact ⟨s, rfl, rfl, fun _ _ _ _ _ => rfl, fun x y h1 h2 => by omega, fun x h1 h2 => by omega, fun i _ => ⟨rfl, rfl⟩, fun i _ => rfl⟩
    · have hR : j < R := by omega
      have i5 : ((j : Int)).toNat = j := by omega
      have ce : ((j : Int) + 1) = ((j + 1 : Nat) : Int) := rfl
      obtain ⟨a1, a2, a3⟩ := p5 j hR
      have w := PR_w P hR
      rw [if_neg (by omega), sp_162 (by omega) p4 p2 a1 a2 (by omega), Option.bind_some, if_pos (by omega), i5, ce]
      have c4 : ∀ i, (ct s j m).2 224 i = if 9 * j ≤ i ∧ i < 9 * j + m then flq s i else s.2 224 i := fun i => by
        show (if 224 = 224 ∧ 9 * j ≤ i ∧ i < 9 * j + m then _ else if 224 = 225 ∧ 9 * j ≤ i ∧ i < 9 * j + m then _ else _) = _
        by_cases q' : 9 * j ≤ i ∧ i < 9 * j + m
        · rw [if_pos ⟨rfl, q'⟩, if_pos q']
          unfold flq
          rw [show i / 9 = j by omega]
        · rw [if_neg (fun x => q' x.2), if_neg (by omega), if_neg q']
      have c5 : ∀ i, (ct s j m).2 225 i = if 9 * j ≤ i ∧ i < 9 * j + m then rsq s i else s.2 225 i := fun i => by
        have e : (ct s j m).2 225 i = if (225 : Nat) = 224 ∧ 9 * j ≤ i ∧ i < 9 * j + m then (if s.1 223 j = 0 then 0 else s.2 221 j * s.1 222 i / s.1 223 j) else if (225 : Nat) = 225 ∧ 9 * j ≤ i ∧ i < 9 * j + m then (if s.1 223 j = 0 then 0 else s.2 221 j * s.1 222 i % s.1 223 j) else s.2 225 i := rfl
        rw [e, if_neg (by omega)]
        by_cases q' : 9 * j ≤ i ∧ i < 9 * j + m
        · rw [if_pos ⟨rfl, q'⟩, if_pos q']
          unfold rsq
          rw [show i / 9 = j by omega]
        · rw [if_neg (fun x => q' x.2), if_neg q']
      have co : ∀ k i, k ≠ 224 → k ≠ 225 → (ct s j m).2 k i = s.2 k i := fun k i h1 h2 => by
        show (if k = 224 ∧ _ then _ else if k = 225 ∧ _ then _ else _) = _
        rw [if_neg (fun x => h1 x.1), if_neg (fun x => h2 x.1)]
      have lq : (if s.1 223 j = 0 then 0 else s.2 221 j - sg (fun c => (ct s j m).2 224 (9 * j + c)) m) = loq s m j := by
        unfold loq
        rw [sg_eq (f := fun c => (ct s j m).2 224 (9 * j + c)) (g := fun c => flq s (9 * j + c)) fun c hc => by rw [c4, if_pos (by omega)]]
      rw [lq]
      obtain ⟨t, ht⟩ : ∃ t : gx_S, t = gw2 (ct s j m) 226 j (loq s m j) := ⟨_, rfl⟩
      rw [← ht]
      have t1 : t.1 = s.1 := by rw [ht]; rfl
      have t2 : ∀ k i, k ≠ 224 → k ≠ 225 → k ≠ 226 → t.2 k i = s.2 k i := fun k i h1 h2 h3 => by
        rw [ht, gw2_2, if_neg (fun x => h3 x.1), co k i h1 h2]
      have t21 : ∀ i, t.2 221 i = s.2 221 i := fun i => t2 221 i (by decide) (by decide) (by decide)
      have tf : ∀ i, flq t i = flq s i := fun i => by
        unfold flq
        rw [t1, t21]
      have tr : ∀ i, rsq t i = rsq s i := fun i => by
        unfold rsq
        rw [t1, t21]
      have tl : ∀ x, loq t m x = loq s m x := fun x => by
        unfold loq
        rw [t1, t21, sg_eq (f := fun c => flq t (9 * x + c)) (g := fun c => flq s (9 * x + c)) fun c _ => tf _]
      have t4 : ∀ i, t.2 224 i = if 9 * j ≤ i ∧ i < 9 * j + m then flq s i else s.2 224 i := fun i => by
        rw [ht, gw2_2, if_neg (by omega), c4]
      have t5 : ∀ i, t.2 225 i = if 9 * j ≤ i ∧ i < 9 * j + m then rsq s i else s.2 225 i := fun i => by
        rw [ht, gw2_2, if_neg (by omega), c5]
      have t6 : ∀ i, t.2 226 i = if i = j then loq s m j else s.2 226 i := fun i => by
        rw [ht, gw2_2]
        by_cases q' : i = j
        · rw [if_pos ⟨rfl, q'⟩, if_pos q']
        · rw [if_neg (fun x => q' x.2), if_neg q', co 226 i (by decide) (by decide)]
      obtain ⟨u, u1, u2, u3, u4, u5, u6, u7⟩ := ih (j + 1) t (by omega) (by omega) ⟨by rw [t1]; exact p1, by rw [t1]; exact p2, p3, p4, fun r hr => by
        rw [t1, t21]
        exact p5 r hr⟩
      refine ⟨u, u1, u2.trans t1, fun k i h1 h2 h3 => (u3 k i h1 h2 h3).trans (t2 k i h1 h2 h3), fun x y h1 h2 h3 => ?_, fun x h1 h2 => ?_, fun i h => ?_, fun i h => ?_⟩
      · by_cases q' : x = j
        · obtain ⟨v1, v2⟩ := u6 (9 * x + y) fun x' y' z1 z2 z3 => by omega
          rw [v1, v2, t4, t5, if_pos (by omega), if_pos (by omega)]
          exact ⟨rfl, rfl⟩
        · obtain ⟨v1, v2⟩ := u4 x y (by omega) h2 h3
          rw [v1, v2, tf, tr]
          exact ⟨rfl, rfl⟩
      · by_cases q' : x = j
        · rw [u7 x (by omega), t6, if_pos q', q']
        · rw [u5 x (by omega) h2, tl]
      · obtain ⟨v1, v2⟩ := u6 i fun x' y' z1 z2 z3 => h x' y' (by omega) z2 z3
        rw [v1, v2, t4, t5, if_neg (fun z => h j (i - 9 * j) (by omega) hR (by omega) (by omega)), if_neg (fun z => h j (i - 9 * j) (by omega) hR (by omega) (by omega))]
        exact ⟨rfl, rfl⟩
      · rw [u7 i (by omega), t6, if_neg (by omega)]
