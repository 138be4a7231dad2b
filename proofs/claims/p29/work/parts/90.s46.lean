/-! THE REFERENCE's TABLE: by remainders, beside the class's -/
theorem ct_4 {s : gx_S} {r m : Nat} (m9 : m ≤ 9) (i : Nat) : (ct s r m).2 224 i = if 9 * r ≤ i ∧ i < 9 * r + m then flq s i else s.2 224 i := by
  have e : (ct s r m).2 224 i = if (224 : Nat) = 224 ∧ 9 * r ≤ i ∧ i < 9 * r + m then (if s.1 223 r = 0 then 0 else s.2 221 r * s.1 222 i / s.1 223 r) else if (224 : Nat) = 225 ∧ 9 * r ≤ i ∧ i < 9 * r + m then (if s.1 223 r = 0 then 0 else s.2 221 r * s.1 222 i % s.1 223 r) else s.2 224 i := rfl
  rw [e]
  by_cases q : 9 * r ≤ i ∧ i < 9 * r + m
  · rw [if_pos ⟨rfl, q⟩, if_pos q]
    unfold flq
    rw [show i / 9 = r by omega]
  · rw [if_neg (fun x => q x.2), if_neg (by omega), if_neg q]
theorem ct_5 {s : gx_S} {r m : Nat} (m9 : m ≤ 9) (i : Nat) : (ct s r m).2 225 i = if 9 * r ≤ i ∧ i < 9 * r + m then rsq s i else s.2 225 i := by
  have e : (ct s r m).2 225 i = if (225 : Nat) = 224 ∧ 9 * r ≤ i ∧ i < 9 * r + m then (if s.1 223 r = 0 then 0 else s.2 221 r * s.1 222 i / s.1 223 r) else if (225 : Nat) = 225 ∧ 9 * r ≤ i ∧ i < 9 * r + m then (if s.1 223 r = 0 then 0 else s.2 221 r * s.1 222 i % s.1 223 r) else s.2 225 i := rfl
  rw [e, if_neg (by omega)]
  by_cases q : 9 * r ≤ i ∧ i < 9 * r + m
  · rw [if_pos ⟨rfl, q⟩, if_pos q]
    unfold rsq
    rw [show i / 9 = r by omega]
  · rw [if_neg (fun x => q x.2), if_neg q]
theorem ct_o (s : gx_S) (r m k i : Nat) (h1 : k ≠ 224) (h2 : k ≠ 225) : (ct s r m).2 k i = s.2 k i := by
  show (if k = 224 ∧ _ then _ else if k = 225 ∧ _ then _ else _) = _
  rw [if_neg (fun x => h1 x.1), if_neg (fun x => h2 x.1)]
theorem gvn_1 (r m : Nat) : ∀ (n : Nat) (s : gx_S), (gvn s r m n).1 = s.1
  | 0, _ => rfl
  | n + 1, s => gvn_1 r m n (gv1 s r m)
theorem gvn_o {r m : Nat} : ∀ (n : Nat) (s : gx_S), (n : Int) ≤ ps s r m → ∀ k i, ¬ ((k = 224 ∨ k = 225) ∧ 9 * r ≤ i ∧ i < 9 * r + m) → (gvn s r m n).2 k i = s.2 k i
  | 0, _, _, _, _, _ => rfl
  | n + 1, s, h, k, i, q => by
    have b := bs_of_ps (s := s) (r := r) (m := m) (by omega)
    have br := bs_r s r m
    have a := gvn_o (r := r) (m := m) n (gv1 s r m) (by rw [ps_gv1 b]; omega) k i q
    show (gvn (gv1 s r m) r m n).2 k i = _
    rw [a]
    unfold gv1
    rw [gw2_2, if_neg (by omega), gw2_2, if_neg (by omega)]
theorem gvn_r {r m : Nat} : ∀ (n : Nat) (s : gx_S) (i : Nat), 0 ≤ s.2 225 i ∧ s.2 225 i ≤ 1000000000 → 0 ≤ (gvn s r m n).2 225 i ∧ (gvn s r m n).2 225 i ≤ 1000000000
  | 0, _, _, h => h
  | n + 1, s, i, h => by
    refine gvn_r n (gv1 s r m) i ?_
    unfold gv1
    rw [gw2_2, gw2_2]
    split
    · omega
    · rw [if_neg (by omega)]
      exact h
theorem lo_ps {s : gx_S} {R m r : Nat} (P : PR s R m) (hr : r < R) : 0 ≤ loq s m r ∧ (((loq s m r).toNat : Nat) : Int) ≤ ps (ct s r m) r m ∧ loq s m r = if s.1 223 r = 0 then 0 else s.2 221 r - sg (fun c => s.2 221 r * s.1 222 (9 * r + c) / s.1 223 r) m := by
  have w := PR_w P hr
  obtain ⟨p1, p2, p3, m9, p5⟩ := P
  obtain ⟨a1, a2, a3⟩ := p5 r hr
  have e : ∀ c, c < 9 → flq s (9 * r + c) = if s.1 223 r = 0 then 0 else s.2 221 r * s.1 222 (9 * r + c) / s.1 223 r := fun c hc => by
    unfold flq
    rw [show (9 * r + c) / 9 = r by omega]
  by_cases q : s.1 223 r = 0
  · have z : loq s m r = 0 := if_pos q
    rw [z, if_pos q]
    have : 0 ≤ ps (ct s r m) r m := sg_nn fun k _ => (bi_r _).1
    exact ⟨Int.le_refl 0, this, rfl⟩
  · have z : loq s m r = s.2 221 r - sg (fun c => s.2 221 r * s.1 222 (9 * r + c) / s.1 223 r) m := by
      unfold loq
      rw [if_neg q, sg_eq (f := fun c => flq s (9 * r + c)) fun c hc => by rw [e c (by omega), if_neg q]]
    obtain ⟨l1, l2⟩ := left_ps a1.1 (show 0 < s.1 223 r by omega) (fun c hc => (a2 c hc).1) a3.symm
    have e4 : ps (ct s r m) r m = sg (fun c => bi (0 < s.2 221 r * s.1 222 (9 * r + c) % s.1 223 r)) m := sg_eq fun c hc => by
      rw [ct_5 m9, if_pos (by omega)]
      unfold rsq
      rw [show (9 * r + c) / 9 = r by omega, if_neg q]
    rw [z, if_neg q, e4]
    exact ⟨l1, by omega, rfl⟩
/-- a row of the class's table, cut, beside the reference's -/
def RA (v s : gx_S) (t m x : Nat) : Prop := (∀ c, c < m → v.1 (t + 6) (9 * x + c) = flq s (9 * x + c) ∧ v.1 (t + 8) (9 * x + c) = flq s (9 * x + c) ∧ v.1 (t + 7) (9 * x + c) = rsq s (9 * x + c)) ∧ ∀ c, m ≤ c → c < 9 → v.1 (t + 7) (9 * x + c) = 0
theorem sl_173_39 {v : gx_S} {t R m : Nat} : ∀ (n j : Nat) (s : gx_S), R < n + j → j ≤ R → PR s R m → (∀ x, x < R → RA v s t m x) → ∃ u : gx_S, gm_173_39 n j s = some u ∧ u.1 = s.1 ∧ (∀ k i, k ≠ 224 → k ≠ 225 → u.2 k i = s.2 k i) ∧ (∀ x y, j ≤ x → x < R → y < m → u.2 224 (9 * x + y) = (gcn v t x (loq s m x).toNat).1 (t + 8) (9 * x + y)) ∧ (∀ i, (∀ x y, j ≤ x → x < R → y < m → i ≠ 9 * x + y) → u.2 224 i = s.2 224 i ∧ u.2 225 i = s.2 225 i) ∧ ∀ i, 0 ≤ s.2 225 i ∧ s.2 225 i ≤ 1000000000 → 0 ≤ u.2 225 i ∧ u.2 225 i ≤ 1000000000 := by
  intro n
  induction n with
  | zero => intro j s h; omega
  | succ n ih =>
    intro j s h hj P A
    obtain ⟨p1, p2, p3, m9, p5⟩ := id P
    rw [gm_173_39, p1, if_pos (by omega), if_pos (by omega)]
    by_cases q : j = R
    · rw [if_pos (by omega)]
      exact ⟨s, rfl, rfl, fun _ _ _ _ => rfl, fun x y h1 h2 => by omega, fun i _ => ⟨rfl, rfl⟩, fun _ h => h⟩
    · have hR : j < R := by omega
      have ce : ((j : Int) + 1) = ((j + 1 : Nat) : Int) := rfl
      obtain ⟨a1, a2, a3⟩ := p5 j hR
      obtain ⟨l1, l2, l3⟩ := lo_ps P hR
      have w := PR_w P hR
      rw [if_neg (by omega), sp_163 (by omega) m9 p2 a1 a2 a3, Option.bind_some, ce, ← l3]
      obtain ⟨g, hg⟩ : ∃ g : gx_S, g = gvn (ct s j m) j m (loq s m j).toNat := ⟨_, rfl⟩
      rw [← hg]
      have rw0 : rw_ v (ct s j m) t j m := by
        obtain ⟨z1, z2⟩ := A j hR
        refine ⟨fun c hc => ?_, fun c hc => ?_, fun c h1 h2 => ?_⟩
        · rw [ct_4 m9, if_pos (by omega)]
          exact (z1 c hc).2.1
        · rw [ct_5 m9, if_pos (by omega)]
          obtain ⟨y1, y2, y3⟩ := z1 c hc
          unfold vc
          rw [if_pos (y2.trans y1.symm)]
          exact y3
        · unfold vc
          rw [z2 c h1 h2]
          split <;> rfl
      have rwn := rw_n m9 (loq s m j).toNat v (ct s j m) rw0 l2
      rw [← hg] at rwn
      have go := gvn_o (loq s m j).toNat (ct s j m) l2
      rw [← hg] at go
      have g1 : g.1 = s.1 := by rw [hg, gvn_1]; rfl
      have g2 : ∀ k i, k ≠ 224 → k ≠ 225 → g.2 k i = s.2 k i := fun k i h1 h2 => (go k i (by omega)).trans (ct_o s j m k i h1 h2)
      have g45 : ∀ i, ¬ (9 * j ≤ i ∧ i < 9 * j + m) → g.2 224 i = s.2 224 i ∧ g.2 225 i = s.2 225 i := fun i h => by
        rw [go 224 i (fun x => h x.2), go 225 i (fun x => h x.2), ct_4 m9, ct_5 m9, if_neg h, if_neg h]
        exact ⟨rfl, rfl⟩
      have g21 : ∀ i, g.2 221 i = s.2 221 i := fun i => g2 221 i (by decide) (by decide)
      have tf : ∀ i, flq g i = flq s i := fun i => by
        unfold flq
        rw [g1, g21]
      have tr : ∀ i, rsq g i = rsq s i := fun i => by
        unfold rsq
        rw [g1, g21]
      have tl : ∀ x, loq g m x = loq s m x := fun x => by
        unfold loq
        rw [g1, g21, sg_eq (f := fun c => flq g (9 * x + c)) (g := fun c => flq s (9 * x + c)) fun c _ => tf _]
      obtain ⟨u, u1, u2, u3, u4, u5, u6⟩ := ih (j + 1) g (by omega) (by omega) ⟨by rw [g1]; exact p1, by rw [g1]; exact p2, p3, m9, fun r hr => by
        rw [g1, g21]
        exact p5 r hr⟩ fun x hx => ⟨fun c hc => by rw [tf, tr]; exact (A x hx).1 c hc, (A x hx).2⟩
      refine ⟨u, u1, u2.trans g1, fun k i h1 h2 => (u3 k i h1 h2).trans (g2 k i h1 h2), fun x y h1 h2 h3 => ?_, fun i h => ?_, fun i h => u6 i ?_⟩
      · by_cases q' : x = j
        · rw [(u5 (9 * x + y) fun x' y' z1 z2 z3 => by omega).1, q']
          exact (rwn.1 y h3).symm
        · rw [u4 x y (by omega) h2 h3, tl]
      · obtain ⟨v1, v2⟩ := u5 i fun x' y' z1 z2 z3 => h x' y' (by omega) z2 z3
        obtain ⟨v3, v4⟩ := g45 i fun z => h j (i - 9 * j) (by omega) hR (by omega) (by omega)
        rw [v1, v2]
        exact ⟨v3, v4⟩
      · rw [hg]
        refine gvn_r _ _ i ?_
        rw [ct_5 m9]
        by_cases q' : 9 * j ≤ i ∧ i < 9 * j + m
        · rw [if_pos q']
          have e : 9 * j + (i - 9 * j) = i := by omega
          have b := rsq_B P hR (y := i - 9 * j) (by omega)
          rw [e] at b
          omega
        · rw [if_neg q']
          exact h
theorem sl_173_2 {R m : Nat} (R8 : R ≤ 8) (m9 : m ≤ 9) : ∀ (n j : Nat) (s : gx_S), R < n + j → j ≤ R → s.1 215 17 = R → s.1 215 18 = m → (-2147483648 ≤ s.1 216 3 ∧ s.1 216 3 ≤ 2147483647) → ∃ a : gx_S, gm_173_2 n j s = (if ¬ a.1 216 3 = 1 then gm_173_39 100000 0 a else (gm_172 a).bind fun q => some q) ∧ a.2 = s.2 ∧ (∀ k i, k ≠ 223 → a.1 k i = s.1 k i) ∧ (∀ x, j ≤ x → x < R → a.1 223 x = sg (fun c => s.1 222 (9 * x + c)) m) ∧ ∀ x, ¬ (j ≤ x ∧ x < R) → a.1 223 x = s.1 223 x := by
  intro n
  induction n with
  | zero => intro j s h; omega
  | succ n ih =>
    intro j s h hj e17 e18 e3
    rw [gm_173_2, e17, if_pos (by omega), if_pos (by omega)]
    by_cases q : j = R
    · rw [if_pos (by omega), if_pos e3]
      exact ⟨s, rfl, rfl, fun _ _ _ => rfl, fun x h1 h2 => by omega, fun _ _ => rfl⟩
    · have ce : ((j : Int) + 1) = ((j + 1 : Nat) : Int) := rfl
      rw [if_neg (by omega), sp_161 (by omega) m9 e18, Option.bind_some, ce]
      have g : ∀ k i, k ≠ 223 → (gw1 s 223 j (sg (fun c => s.1 222 (9 * j + c)) m)).1 k i = s.1 k i := fun k i h => by rw [gw1_1, if_neg (fun x => h x.1)]
      obtain ⟨a, a1, a2, a3, a4, a5⟩ := ih (j + 1) (gw1 s 223 j (sg (fun c => s.1 222 (9 * j + c)) m)) (by omega) (by omega) (by rw [g 215 17 (by decide)]; exact e17) (by rw [g 215 18 (by decide)]; exact e18) (by rw [g 216 3 (by decide)]; exact e3)
      refine ⟨a, a1, a2, fun k i h => (a3 k i h).trans (g k i h), fun x h1 h2 => ?_, fun x h1 => ?_⟩
      · by_cases q' : x = j
        · rw [a5 x (by omega), gw1_1, if_pos ⟨rfl, q'⟩, q']
        · rw [a4 x (by omega) h2]
          exact sg_eq fun c _ => g 222 _ (by decide)
      · rw [a5 x (by omega), gw1_1, if_neg (by omega)]
