/-! WHAT IS MOVED, as the law checks it -/
/-- the map, who lives where (p), the parts (t) -/
def EV (δ : dS) (m a : Nat) (f : Nat → Int) (R C g p t : Nat) : Prop := LM δ m a f R C ∧ (AR δ 1 p 8 ∧ ∀ z, z < 8 → δ.I p z = LV f R C g z) ∧ PTs δ t ∧ ∀ i j, i < 8 → j < 9 → δ.I (t + 1 + i) j = PMV f R C g i j
/-- T: who has one more -/
def TTm (f : Nat → Int) (R C g : Nat) (T : Nat → Nat → Int) : Prop := (∀ x y, x < 8 → y < 9 → GV f R C g x y = flv (LV f R C g) (PMV f R C g) x y + T x y ∧ (T x y = 0 ∨ T x y = 1) ∧ (T x y = 1 → 0 < rsv (LV f R C g) (PMV f R C g) x y)) ∧ (f 3 = 0 → ∀ x a b, x < 8 → a < 9 → b < 9 → T x a = 1 → T x b = 0 → rsv (LV f R C g) (PMV f R C g) x b < rsv (LV f R C g) (PMV f R C g) x a ∨ (rsv (LV f R C g) (PMV f R C g) x b = rsv (LV f R C g) (PMV f R C g) x a ∧ a < b)) ∧ (f 3 = 1 → ∀ y, y < 9 → Smv f R C g y / (Kmv f R C g : Nat) ≤ sg (fun x => T x y) 8 ∧ sg (fun x => T x y) 8 ≤ Smv f R C g y / (Kmv f R C g : Nat) + if Smv f R C g y % (Kmv f R C g : Nat) = 0 then 0 else 1)
theorem TTm_e {f : Nat → Int} {R C g : Nat} (M : MP f R C) (h7 : f 2 = 7) (hg : g < 3) : ∃ T, TTm f R C g T := by
  obtain ⟨p1, p2⟩ := PA_mv M h7 hg
  obtain ⟨T, t1, t2, t3⟩ := TB_e M.2.2.1 p1 p2
  exact ⟨T, t1, t2, t3⟩
section
variable {Ls : Nat} {xs : Nat → Int32} {f : Nat → Int} {R C : Nat} {m a g p t n L : Nat} {pf : Nat → Nat → Int} {tb : Nat → Int} {δ : dS}
theorem ev_wh (E : EV δ m a f R C g p t) (hg : g < 3) (s : gx_S) {z : Nat} (hz : z < 8) : dm_253 Ls xs (t + 1 + z) s δ = some (vt (PMV f R C g) z, s, δ) := whole_ s (E.2.2.1.2 z hz).2 (by omega) (fun k hk => E.2.2.2 z k hz hk) (fun k hk => by
  have := (PA_mv E.1.2.1 E.1.2.2 hg).1.2.1 z k hz hk
  unfold i32
  omega)
/-- numbers of a place -/
theorem ev_n (M : MP f R C) (h7 : f 2 = 7) (hg : g < 3) {z c : Nat} (hz : z < 8) (hc : c < 9) : (0 ≤ PMV f R C g z c ∧ PMV f R C g z c ≤ 1000000) ∧ (0 ≤ LV f R C g z ∧ LV f R C g z ≤ 100000000) ∧ (0 ≤ LV f R C g z * PMV f R C g z c ∧ LV f R C g z * PMV f R C g z c ≤ 100000000000000) ∧ (0 ≤ GV f R C g z c ∧ GV f R C g z c ≤ 100000000) ∧ (0 ≤ flv (LV f R C g) (PMV f R C g) z c ∧ flv (LV f R C g) (PMV f R C g) z c ≤ 100000000) ∧ 0 ≤ rsv (LV f R C g) (PMV f R C g) z c ∧ rsv (LV f R C g) (PMV f R C g) z c ≤ 864 := by
  obtain ⟨p1, p2⟩ := PA_mv M h7 hg
  have g1 := (GV_r M h7 hg).1 z c hz hc
  have l1 := p1.1 z hz
  have w := vtb_ M h7 hg hz
  refine ⟨p1.2.1 z c hz hc, l1, pa_mul p1 hz hc, by omega, flv_r p1 hz hc, ?_⟩
  by_cases q : 0 < vt (PMV f R C g) z
  · rw [← (fl_W q c).2]
    have m1 := Int.emod_nonneg (LV f R C g z * PMV f R C g z c) (b := vt (PMV f R C g) z) (by omega)
    have m2 := Int.emod_lt_of_pos (LV f R C g z * PMV f R C g z c) q
    omega
  · have : rsv (LV f R C g) (PMV f R C g) z c = 0 := if_pos (show sg (fun y => PMV f R C g z y) 9 ≤ 0 by have : ¬ 0 < sg (fun y => PMV f R C g z y) 9 := q; omega)
    omega
theorem mv_454 {K : Nat → Int → Nat → Nat → Int → Int → Int → Int → Int → gx_S → dS → Option (Int × DS)} {x5 x7 x8 a0 b0 hA hB : Int} {j k : Nat} (s : gx_S) (ra : 0 ≤ a0 ∧ a0 ≤ 1000000) (rb : 0 ≤ b0 ∧ b0 ≤ 1000000) (r1 : hA = 0 ∨ hA = 1) (r2 : hB = 0 ∨ hB = 1) (hj : j < 9) (hk : k < 9) (h : hA = 1 → hB = 0 → b0 < a0 ∨ (b0 = a0 ∧ j < k)) : dm_254_454 Ls xs K m g p t x5 x7 x8 j k a0 b0 hA hB s δ = K m g p t x5 x7 x8 j ((k + 1 : Nat) : Int) s δ := by
  have go : dm_254_491 Ls xs K m g p t x5 x7 x8 j k s δ = K m g p t x5 x7 x8 j ((k + 1 : Nat) : Int) s δ := rfl
  unfold dm_254_454
  rw [if_pos (by omega)]
  by_cases q1 : hA = 0
  · rw [if_pos q1, go]
  · rw [if_neg q1, if_pos (by omega)]
    by_cases q2 : hB = 0
    · have h' := h (by omega) q2
      rw [if_neg (fun t => t q2), if_pos (by omega), if_pos (by omega), if_neg (by omega)]
      by_cases q4 : b0 = a0
      · rw [if_neg (fun t => t q4), if_pos (by omega), if_pos (by omega), if_pos (by omega), go]
      · rw [if_pos q4, go]
    · rw [if_pos q2, go]
theorem mv_335 {K : Nat → Int → Nat → Nat → Int → Int → Int → Int → gx_S → dS → Option (Int × DS)} {T : Nat → Nat → Int} {x5 : Int} {z j : Nat} (hT : TTm f R C g T) (h3 : f 3 = 0) (E : EV δ m a f R C g p t) (hg : g < 3) (hz : z < 8) (hj : j < 9) (W : 0 < vt (PMV f R C g) z) : ∀ (q k : Nat) (s : gx_S), 9 < q + k → k ≤ 9 → QS f R C n pf L tb s → ∃ u : gx_S, QS f R C n pf L tb u ∧ dm_254_335 Ls xs K q m g p t x5 z (vt (PMV f R C g) z) j k s δ = K m g p t x5 z (vt (PMV f R C g) z) ((j + 1 : Nat) : Int) u δ := by
  obtain ⟨⟨-, M, h7⟩, ⟨b1, b2⟩, ⟨b3, b4⟩, b5⟩ := E
  have wr := vtb_ M h7 hg hz
  intro q
  induction q with
  | zero => intro k s h; omega
  | succ q ih =>
    intro k s h hk Q
    by_cases e : k = 9
    · refine ⟨s, Q, ?_⟩
      rw [dm_254_335, if_pos (by omega), if_pos (by omega)]
      rfl
    · have hk' : k < 9 := by omega
      obtain ⟨u1, g1, Q1⟩ := qs_moved Q h7 (g := g) (o := (z : Int)) (z := (j : Int)) hg (by omega) (by omega)
      obtain ⟨u2, g2, Q2⟩ := qs_moved Q1 h7 (g := g) (o := (z : Int)) (z := (k : Int)) hg (by omega) (by omega)
      rw [MVs_zc] at g1 g2
      obtain ⟨u, U1, U2⟩ := ih (k + 1) u2 (by omega) (by omega) Q2
      refine ⟨u, U1, ?_⟩
      rw [← U2]
      obtain ⟨nj1, nj2, nj3, nj4, nj5, nj6⟩ := ev_n M h7 hg hz hj
      obtain ⟨nk1, nk2, nk3, nk4, nk5, nk6⟩ := ev_n M h7 hg hz hk'
      obtain ⟨fj1, fj2⟩ := fl_W (P := LV f R C g) (x := z) W j
      obtain ⟨fk1, fk2⟩ := fl_W (P := LV f R C g) (x := z) W k
      obtain ⟨tj1, tj2, -⟩ := hT.1 z j hz hj
      obtain ⟨tk1, tk2, -⟩ := hT.1 z k hz hk'
      have top := hT.2.1 h3 z j k hz hj hk'
      have c1 := AR_A b1
      have c2 : dI δ p (z : Int) := AR_I b1 hz
      have c3 := AR_A b3
      have c4 : dI δ t (z : Int) := AR_I b3 hz
      obtain ⟨e4, a4⟩ := b4 z hz
      have c5 := AR_A a4
      have c6 : dI δ (t + 1 + z) (j : Int) := AR_I a4 hj
      have c7 : dI δ (t + 1 + z) (k : Int) := AR_I a4 hk'
      have eP := b2 z hz
      have eJ := b5 z j hz hj
      have eK := b5 z k hz hk'
      have r1 : -2147483648 ≤ PMV f R C g z j ∧ PMV f R C g z j ≤ 2147483647 := by omega
      have r2 : -2147483648 ≤ PMV f R C g z k ∧ PMV f R C g z k ≤ 2147483647 := by omega
      have r3 : 0 ≤ LV f R C g z * PMV f R C g z j ∧ LV f R C g z * PMV f R C g z j ≤ 9223372036854775807 ∧ 0 < vt (PMV f R C g) z ∧ vt (PMV f R C g) z ≤ 9223372036854775807 := by omega
      have r4 : 0 ≤ LV f R C g z * PMV f R C g z k ∧ LV f R C g z * PMV f R C g z k ≤ 9223372036854775807 ∧ 0 < vt (PMV f R C g) z ∧ vt (PMV f R C g) z ≤ 9223372036854775807 := by omega
      have r5 : -2147483648 ≤ GV f R C g z j ∧ GV f R C g z j ≤ 2147483647 := by omega
      have r6 : -2147483648 ≤ GV f R C g z k ∧ GV f R C g z k ≤ 2147483647 := by omega
      have r7 : -9223372036854775808 ≤ GV f R C g z j ∧ GV f R C g z j ≤ 9223372036854775807 := by omega
      have r8 : -9223372036854775808 ≤ GV f R C g z k ∧ GV f R C g z k ≤ 9223372036854775807 := by omega
      have r9 : -9223372036854775808 ≤ flv (LV f R C g) (PMV f R C g) z j ∧ flv (LV f R C g) (PMV f R C g) z j ≤ 9223372036854775807 := by omega
      have r10 : -9223372036854775808 ≤ flv (LV f R C g) (PMV f R C g) z k ∧ flv (LV f R C g) (PMV f R C g) z k ≤ 9223372036854775807 := by omega
      have s416 : ∀ hA : Int, (hA = 0 ∨ hA = 1) → (hA = 1 → T z j = 1) → dm_254_416 Ls xs (dm_254_335 Ls xs K q) m g p t x5 z (vt (PMV f R C g) z) j k (rsv (LV f R C g) (PMV f R C g) z j) (rsv (LV f R C g) (PMV f R C g) z k) hA u1 δ = dm_254_335 Ls xs K q m g p t x5 z (vt (PMV f R C g) z) j ((k + 1 : Nat) : Int) u2 δ := fun hA hA1 hA2 => by
        unfold dm_254_416
        rw [g2, Option.bind_some]
        dsimp only
        simp only [if_pos r6, if_pos c1, if_pos c2, if_pos c3, if_pos c4, Int.toNat_natCast, e4, Option.bind_some, if_pos c5, if_pos c7, eP, eK, if_pos r2, if_pos r4, if_pos r8, fk1, if_pos r10]
        by_cases q2 : GV f R C g z k ≤ flv (LV f R C g) (PMV f R C g) z k
        · rw [if_pos q2]
          exact mv_454 (Ls := Ls) (xs := xs) (K := dm_254_335 Ls xs K q) u2 (by omega) (by omega) hA1 (.inl rfl) hj hk' (fun h1 _ => top (hA2 h1) (by omega))
        · rw [if_neg q2]
          exact mv_454 (Ls := Ls) (xs := xs) (K := dm_254_335 Ls xs K q) u2 (by omega) (by omega) hA1 (.inr rfl) hj hk' (fun _ h2 => absurd h2 (by decide))
      rw [dm_254_335, if_pos (by omega), if_neg (by omega)]
      simp only [if_pos c1, if_pos c2, if_pos c3, if_pos c4, Int.toNat_natCast, e4, Option.bind_some, if_pos c5, if_pos c6, if_pos c7, eP, eJ, eK, if_pos r1, if_pos r2, if_pos r3, if_pos r4, g1, if_pos r5, if_pos r7, fj1, fj2, fk2, if_pos r9]
      by_cases q1 : GV f R C g z j ≤ flv (LV f R C g) (PMV f R C g) z j
      · rw [if_pos q1]
        exact s416 0 (.inl rfl) (fun h => absurd h (by decide))
      · rw [if_neg q1]
        exact s416 1 (.inr rfl) (fun _ => by omega)
theorem mv_311 {K : Nat → Int → Nat → Nat → Int → Int → gx_S → dS → Option (Int × DS)} {T : Nat → Nat → Int} {x5 : Int} {z : Nat} (hT : TTm f R C g T) (E : EV δ m a f R C g p t) (hg : g < 3) (hz : z < 8) : ∀ (q j : Nat) (s : gx_S), 9 < q + j → j ≤ 9 → QS f R C n pf L tb s → ∃ u : gx_S, QS f R C n pf L tb u ∧ dm_254_311 Ls xs K q m g p t x5 z (vt (PMV f R C g) z) j s δ = K m g p t x5 ((z + 1 : Nat) : Int) u δ := by
  have wr := vtb_ E.1.2.1 E.1.2.2 hg hz
  have o1 := E.1.1.1.2.1
  have i2 := E.1.1.2.1.2.2.1
  have f3 := E.1.2.1.2.2.1
  intro q
  induction q with
  | zero => intro j s h; omega
  | succ q ih =>
    intro j s h hj Q
    rw [dm_254_311, if_pos (by omega)]
    by_cases e : j = 9
    · rw [if_pos (by omega)]
      exact ⟨s, Q, rfl⟩
    · rw [if_neg (by omega), if_pos o1, i2, if_pos (by omega)]
      by_cases q0 : f 3 = 0
      · rw [if_neg (fun t => t q0), if_pos (by omega)]
        by_cases q1 : vt (PMV f R C g) z ≤ 0
        · rw [if_pos q1]
          exact ⟨s, Q, rfl⟩
        · obtain ⟨u, Q1, U⟩ := mv_335 (Ls := Ls) (xs := xs) (K := dm_254_311 Ls xs K q) (x5 := x5) hT q0 E hg hz (show j < 9 by omega) (by omega) 100000 0 s (by omega) (by omega) Q
          obtain ⟨w, Q2, V⟩ := ih (j + 1) u (by omega) (by omega) Q1
          refine ⟨w, Q2, ?_⟩
          rw [if_neg q1, ← V]
          exact U
      · rw [if_pos q0]
        exact ⟨s, Q, rfl⟩
theorem mv_201 {K : Nat → Int → Nat → Nat → Int → Int → Int → Int → Int → Int → gx_S → dS → Option (Int × DS)} {x5 x10 x12 x15 x16 : Int} {z j : Nat} {s : gx_S} (E : EV δ m a f R C g p t) (hg : g < 3) (hz : z < 8) (hj : j < 9) (W : 0 < vt (PMV f R C g) z) (h15 : 0 ≤ x15 ∧ x15 ≤ 1000000000) (h16 : 0 ≤ x16 ∧ x16 ≤ 1000000000) (Q : QS f R C n pf L tb s) : ∃ (u : gx_S) (x12' : Int), QS f R C n pf L tb u ∧ dm_254_201 Ls xs K m g p t x5 z (vt (PMV f R C g) z) x10 x12 j x15 x16 s δ = K m g p t x5 z (vt (PMV f R C g) z) x10 x12' ((j + 1 : Nat) : Int) u δ := by
  obtain ⟨⟨-, M, h7⟩, ⟨b1, b2⟩, ⟨b3, b4⟩, b5⟩ := E
  have wr := vtb_ M h7 hg hz
  obtain ⟨nj1, nj2, nj3, nj4, nj5, nj6⟩ := ev_n M h7 hg hz hj
  obtain ⟨u1, g1, Q1⟩ := qs_share Q h7 (g := g) (o := z) (z := j) (t := 0) hg hz hj (.inl rfl)
  obtain ⟨u2, g2, Q2⟩ := qs_share Q1 h7 (g := g) (o := z) (z := j) (t := 1) hg hz hj (.inr rfl)
  obtain ⟨w, hw⟩ : ∃ w : Nat, vt (PMV f R C g) z = w := ⟨(vt (PMV f R C g) z).toNat, by omega⟩
  obtain ⟨y, hy⟩ : ∃ y : Nat, PMV f R C g z j = y := ⟨(PMV f R C g z j).toNat, by omega⟩
  rw [if_neg (by omega), if_neg (fun t => t rfl), hw, hy, Int.toNat_natCast, Int.toNat_natCast] at g1
  rw [if_neg (by omega), if_pos (by decide), hw, hy, Int.toNat_natCast, Int.toNat_natCast] at g2
  have dv := divisor_ (L0 := Ls) (xs := xs) (a := y) (b := w) s δ (by omega) (by omega)
  have d0 : 0 < Nat.gcd y w := Nat.gcd_pos_of_pos_right y (by omega)
  have d1 : Nat.gcd y w ≤ w := Nat.gcd_le_right y (by omega)
  obtain ⟨d, hd⟩ : ∃ d, d = Nat.gcd y w := ⟨_, rfl⟩
  rw [← hd] at g1 g2 dv d0 d1
  have v1' : 0 ≤ ((y / d : Nat) : Int) ∧ ((y / d : Nat) : Int) ≤ y := ⟨Int.natCast_nonneg _, Int.ofNat_le.mpr (Nat.div_le_self y d)⟩
  have v1 : 0 ≤ (y : Int) / (d : Int) ∧ (y : Int) / (d : Int) ≤ y := v1'
  have v2' : 0 ≤ ((w / d : Nat) : Int) ∧ ((w / d : Nat) : Int) ≤ w := ⟨Int.natCast_nonneg _, Int.ofNat_le.mpr (Nat.div_le_self w d)⟩
  have v2 : 0 ≤ (w : Int) / (d : Int) ∧ (w : Int) / (d : Int) ≤ w := v2'
  have c3 := AR_A b3
  have c4 : dI δ t (z : Int) := AR_I b3 hz
  obtain ⟨e4, a4⟩ := b4 z hz
  have c5 := AR_A a4
  have c6 : dI δ (t + 1 + z) (j : Int) := AR_I a4 hj
  have eJ := b5 z j hz hj
  rw [hy] at eJ
  have r1 : -2147483648 ≤ (y : Int) ∧ (y : Int) ≤ 2147483647 := by omega
  have r2 : -2147483648 ≤ (y : Int) / (d : Int) ∧ (y : Int) / (d : Int) ≤ 2147483647 := by omega
  have r3 : 0 ≤ (y : Int) ∧ (y : Int) ≤ 9223372036854775807 ∧ 0 < (d : Int) ∧ (d : Int) ≤ 9223372036854775807 := by omega
  have r4 : -9223372036854775808 ≤ (y : Int) / (d : Int) ∧ (y : Int) / (d : Int) ≤ 9223372036854775807 := by omega
  have r5 : -2147483648 ≤ (w : Int) / (d : Int) ∧ (w : Int) / (d : Int) ≤ 2147483647 := by omega
  have r6 : 0 ≤ (w : Int) ∧ (w : Int) ≤ 9223372036854775807 ∧ 0 < (d : Int) ∧ (d : Int) ≤ 9223372036854775807 := by omega
  have r7 : -9223372036854775808 ≤ (w : Int) / (d : Int) ∧ (w : Int) / (d : Int) ≤ 9223372036854775807 := by omega
  have r8 : -2147483648 ≤ x15 ∧ x15 ≤ 2147483647 := by omega
  have r9 : -9223372036854775808 ≤ x15 ∧ x15 ≤ 9223372036854775807 := by omega
  have r10 : -9223372036854775808 ≤ x16 ∧ x16 ≤ 9223372036854775807 := by omega
  have ne : ¬ ¬ (y : Int) / (d : Int) = (y : Int) / (d : Int) := fun t => t rfl
  rw [hw]
  unfold dm_254_201
  simp only [if_pos c3, if_pos c4, Int.toNat_natCast, e4, Option.bind_some, if_pos c5, if_pos c6, eJ, if_pos r1, dv, g1, if_pos r2, if_pos r3, if_pos r4, if_neg ne, g2, if_pos r5, if_pos r6, if_pos r7, if_pos r8, if_pos r9, if_pos r10]
  rw [if_pos trivial]
  by_cases q : x15 ≤ x16
  · rw [if_pos q]
    exact ⟨u2, x12, Q2, rfl⟩
  · rw [if_neg q]
    exact ⟨u2, x12 + 1, Q2, rfl⟩
theorem mv_80 {K : Nat → Int → Nat → Nat → Int → Int → gx_S → dS → Option (Int × DS)} {T : Nat → Nat → Int} {x5 : Int} {z : Nat} (hT : TTm f R C g T) (E : EV δ m a f R C g p t) (hg : g < 3) (hz : z < 8) : ∀ (q j : Nat) (x12 : Int) (s : gx_S), 9 < q + j → j ≤ 9 → QS f R C n pf L tb s → ∃ u : gx_S, QS f R C n pf L tb u ∧ dm_254_80 Ls xs K q m g p t x5 z (vt (PMV f R C g) z) (sg (GV f R C g z) j) x12 j s δ = dm_254_311 Ls xs K 100000 m g p t (x5 + LV f R C g z) z (vt (PMV f R C g) z) 0 u δ := by
  have E' := E
  obtain ⟨⟨-, M, h7⟩, ⟨b1, b2⟩, ⟨b3, b4⟩, b5⟩ := E
  have wr := vtb_ M h7 hg hz
  have c1 := AR_A b1
  have c2 : dI δ p (z : Int) := AR_I b1 hz
  have c3 := AR_A b3
  have c4 : dI δ t (z : Int) := AR_I b3 hz
  obtain ⟨e4, a4⟩ := b4 z hz
  have c5 := AR_A a4
  have eP := b2 z hz
  intro q
  induction q with
  | zero => intro j x12 s h; omega
  | succ q ih =>
    intro j x12 s h hj Q
    rw [dm_254_80, if_pos (by omega)]
    by_cases e : j = 9
    · have row := GV_row M h7 hg hz
      obtain ⟨-, n2, -⟩ := ev_n M h7 hg hz (show 0 < 9 by omega)
      rw [if_pos (by omega), if_pos c1, if_pos c2, Int.toNat_natCast, eP, e, row, if_pos (by omega), if_pos (by omega), if_pos rfl]
      exact ⟨s, Q, rfl⟩
    · have hj' : j < 9 := by omega
      obtain ⟨nj1, nj2, nj3, nj4, nj5, nj6⟩ := ev_n M h7 hg hz hj'
      obtain ⟨u1, g1, Q1⟩ := qs_moved Q h7 (g := g) (o := (z : Int)) (z := (j : Int)) hg (by omega) (by omega)
      rw [MVs_zc] at g1
      obtain ⟨tj1, tj2, tj3⟩ := hT.1 z j hz hj'
      have c6 : dI δ (t + 1 + z) (j : Int) := AR_I a4 hj'
      have eJ := b5 z j hz hj'
      rw [if_neg (by omega), g1, Option.bind_some]
      dsimp only
      rw [if_pos (by omega), if_pos (by omega)]
      by_cases w0 : vt (PMV f R C g) z = 0
      · have w9 : sg (fun y => PMV f R C g z y) 9 ≤ 0 := by
          have : sg (fun y => PMV f R C g z y) 9 = 0 := w0
          omega
        have f0 : flv (LV f R C g) (PMV f R C g) z j = 0 := if_pos w9
        have r0 : rsv (LV f R C g) (PMV f R C g) z j = 0 := if_pos w9
        have G0 : GV f R C g z j = 0 := by omega
        obtain ⟨u2, g2, Q2⟩ := qs_share Q1 h7 (g := g) (o := z) (z := j) (t := 0) hg hz hj' (.inl rfl)
        rw [if_pos w0] at g2
        obtain ⟨u, U1, U2⟩ := ih (j + 1) x12 u2 (by omega) (by omega) Q2
        refine ⟨u, U1, ?_⟩
        rw [sg] at U2
        rw [if_neg (fun t => t w0), if_neg (fun t => t G0), g2, Option.bind_some]
        dsimp only
        rw [if_pos (by omega), if_pos rfl, ← U2]
        rfl
      · have W : 0 < vt (PMV f R C g) z := by omega
        obtain ⟨fj1, fj2⟩ := fl_W (P := LV f R C g) (x := z) W j
        have r1 : -2147483648 ≤ PMV f R C g z j ∧ PMV f R C g z j ≤ 2147483647 := by omega
        have r3 : 0 ≤ LV f R C g z * PMV f R C g z j ∧ LV f R C g z * PMV f R C g z j ≤ 9223372036854775807 ∧ 0 < vt (PMV f R C g) z ∧ vt (PMV f R C g) z ≤ 9223372036854775807 := by omega
        have r7 : -9223372036854775808 ≤ GV f R C g z j ∧ GV f R C g z j ≤ 9223372036854775807 := by omega
        have r9 : -9223372036854775808 ≤ flv (LV f R C g) (PMV f R C g) z j ∧ flv (LV f R C g) (PMV f R C g) z j ≤ 9223372036854775807 := by omega
        have r10 : -9223372036854775808 ≤ rsv (LV f R C g) (PMV f R C g) z j ∧ rsv (LV f R C g) (PMV f R C g) z j ≤ 9223372036854775807 := by omega
        have r11 : -9223372036854775808 ≤ flv (LV f R C g) (PMV f R C g) z j + 1 ∧ flv (LV f R C g) (PMV f R C g) z j + 1 ≤ 9223372036854775807 := by omega
        obtain ⟨u2, x12', Q2, s2⟩ := mv_201 (Ls := Ls) (xs := xs) (K := dm_254_80 Ls xs K q) (x5 := x5) (x10 := sg (GV f R C g z) j + GV f R C g z j) (x12 := x12) (x15 := GV f R C g z j) (x16 := flv (LV f R C g) (PMV f R C g) z j) E' hg hz hj' W (by omega) (by omega) Q1
        obtain ⟨u, U1, U2⟩ := ih (j + 1) x12' u2 (by omega) (by omega) Q2
        refine ⟨u, U1, ?_⟩
        rw [sg] at U2
        rw [if_pos w0]
        simp only [if_pos c1, if_pos c2, if_pos c3, if_pos c4, Int.toNat_natCast, e4, Option.bind_some, if_pos c5, if_pos c6, eP, eJ, if_pos r1, if_pos r3, fj1, fj2, if_pos r7, if_pos r9, if_pos r10, if_pos r11]
        by_cases q1 : GV f R C g z j = flv (LV f R C g) (PMV f R C g) z j
        · rw [if_pos q1, s2, ← U2]
        · rw [if_neg q1, if_neg (by omega), if_pos (by omega), s2, ← U2]
end
