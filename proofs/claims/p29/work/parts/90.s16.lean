/-! THE CLASS's TURN of a step and of a way -/
theorem sp_52 {s : gx_S} {u v : Nat} (a : arc s u v) : ∃ t : gx_S, gm_52 u v s = some t ∧ tn s t ∧ (∀ x y, x ≠ v → y ≠ v → (arc t x y ↔ arc s x y)) ∧ (∀ w, w < 18 → ph t w = ph s w + (if w = u then 1 else 0) - (if w = v then 1 else 0)) ∧ ∀ c, ¬ (u = 8 + c ∧ v = 17) → ¬ (u = 17 ∧ v = 8 + c) → t.1 11 c = s.1 11 c := by
  unfold gm_52
  rcases id a with ⟨h1, h2, h3, h4, h5⟩ | ⟨h1, h2, h3, h4, h5⟩ | ⟨h1, h2, h3, h4⟩ | ⟨h1, h2, h3, h4⟩
  · obtain ⟨c, rfl⟩ : ∃ c, v = 8 + c := ⟨v - 8, by omega⟩
    have i1 : ((((u : Int) * 9) + ((8 + c : Nat) : Int)) - 8).toNat = 9 * u + c := by omega
    rw [show 8 + c - 8 = c by omega] at h4 h5
    refine ⟨gw1 s 8 (9 * u + c) 1, ?_, ⟨rfl, fun k j q1 q2 => by rw [gw1_1, if_neg (fun h => q1 h.1)], fun j hj => ?_, fun c' hc' => ?_⟩, fun x y hx hy => arc_w8 (by omega) (by omega) (by omega) (by omega), fun w hw => ph_w8 (by omega) (by omega) (by omega) w, fun c' _ _ => by rw [gw1_1, if_neg (by omega)]⟩
    · rw [i1]
      simp (disch := omega) only [if_pos, if_neg]
    · rw [gw1_1]
      by_cases e : j = 9 * u + c
      · rw [if_pos ⟨rfl, e⟩, e]
        exact .inr ⟨h4, .inr rfl⟩
      · exact .inl (if_neg fun h => e h.2)
    · rw [gw1_1, if_neg (by omega)]
      omega
  · obtain ⟨c, rfl⟩ : ∃ c, u = 8 + c := ⟨u - 8, by omega⟩
    have i1 : ((((v : Int) * 9) + ((8 + c : Nat) : Int)) - 8).toNat = 9 * v + c := by omega
    rw [show 8 + c - 8 = c by omega] at h4 h5
    refine ⟨gw1 s 8 (9 * v + c) 0, ?_, ⟨rfl, fun k j q1 q2 => by rw [gw1_1, if_neg (fun h => q1 h.1)], fun j hj => ?_, fun c' hc' => ?_⟩, fun x y hx hy => arc_w8 (by omega) (by omega) (by omega) (by omega), fun w hw => ?_, fun c' _ _ => by rw [gw1_1, if_neg (by omega)]⟩
    · rw [i1]
      simp (disch := omega) only [if_pos, if_neg]
    · rw [gw1_1]
      by_cases e : j = 9 * v + c
      · rw [if_pos ⟨rfl, e⟩, e]
        exact .inr ⟨h4, .inl rfl⟩
      · exact .inl (if_neg fun h => e h.2)
    · rw [gw1_1, if_neg (by omega)]
      omega
    · rw [ph_w8 (d := -1) h3 (by omega) (by omega) w]
      split <;> split <;> omega
  · obtain ⟨c, rfl⟩ : ∃ c, u = 8 + c := ⟨u - 8, by omega⟩
    subst h3
    have i1 : (((8 + c : Nat) : Int) - 8).toNat = c := by omega
    rw [show 8 + c - 8 = c by omega] at h4
    refine ⟨gw1 s 11 c (s.1 11 c + 1), ?_, ⟨rfl, fun k j q1 q2 => by rw [gw1_1, if_neg (fun h => q2 h.1)], fun j hj => ?_, fun c' hc' => ?_⟩, fun x y hx hy => arc_w11 (by omega) (by omega), fun w hw => ph_w11 (by omega) rfl hw, fun c' _ _ => by rw [gw1_1, if_neg (by omega)]⟩
    · rw [i1]
      simp (disch := omega) only [if_pos, if_neg]
    · rw [gw1_1, if_neg (by omega)]
      exact .inl rfl
    · rw [gw1_1]
      by_cases e : c' = c
      · rw [if_pos ⟨rfl, e⟩, e]
        omega
      · rw [if_neg (fun h => e h.2)]
        omega
  · obtain ⟨c, rfl⟩ : ∃ c, v = 8 + c := ⟨v - 8, by omega⟩
    subst h1
    have i1 : (((8 + c : Nat) : Int) - 8).toNat = c := by omega
    rw [show 8 + c - 8 = c by omega] at h4
    refine ⟨gw1 s 11 c (s.1 11 c - 1), ?_, ⟨rfl, fun k j q1 q2 => by rw [gw1_1, if_neg (fun h => q2 h.1)], fun j hj => ?_, fun c' hc' => ?_⟩, fun x y hx hy => arc_w11 (by omega) (by omega), fun w hw => ?_, fun c' _ _ => by rw [gw1_1, if_neg (by omega)]⟩
    · rw [i1]
      simp (disch := omega) only [if_pos, if_neg]
    · rw [gw1_1, if_neg (by omega)]
      exact .inl rfl
    · rw [gw1_1]
      by_cases e : c' = c
      · rw [if_pos ⟨rfl, e⟩, e]
        omega
      · rw [if_neg (fun h => e h.2)]
        omega
    · rw [ph_w11 (d := -1) (by omega) (by omega) hw]
      split <;> split <;> omega
theorem sl_51 {s0 : gx_S} {st q : Nat} (B : BF s0 st q) : ∀ (n i x v : Nat) (s : gx_S), (∀ j, s.1 12 j = s0.1 12 j) → i < q → s0.1 13 i = v → v < 18 → i < n → x + i ≤ 17 → (∀ (a b i1 i2 : Nat), i1 ≤ i → i2 ≤ i → s0.1 13 i1 = (a : Int) → s0.1 13 i2 = (b : Int) → (arc s a b ↔ arc s0 a b)) → ∃ t : gx_S, gm_51_5 n st v x s = some t ∧ tn s t ∧ (∀ w, w < 18 → ph t w = ph s w + (if w = st then 1 else 0) - (if w = v then 1 else 0)) ∧ (∀ c : Nat, (∀ k, k ≤ i → s0.1 13 k ≠ ((8 + c : Nat) : Int)) → t.1 11 c = s.1 11 c) ∧ ∀ c, c < 9 → v = 8 + c → s.1 11 c ≤ s.1 9 c → t.1 11 c = s.1 11 c := by
  intro n
  induction n with
  | zero => intro i x v s h1 hi hv v18 hn; omega
  | succ n ih =>
    intro i x v s h1 hi hv v18 hn hx ha
    obtain ⟨b1, b2, b3, b4, b5, b6, b7, b8, b9⟩ := id B
    by_cases e : v = st
    · refine ⟨s, ?_, tn_rf s, fun w hw => by rw [e]; omega, fun _ _ => rfl, fun _ _ _ _ => rfl⟩
      rw [gm_51_5, e]
      have hs : st < 18 := by omega
      simp (disch := omega) only [if_pos, if_neg]
      exact if_pos trivial
    · have i0 : 0 < i := by
        rcases Nat.eq_zero_or_pos i with h | h
        · rw [h, b8] at hv
          omega
        · exact h
      obtain ⟨j, u, v', w1, w2, w3, w4, w5, w6, w7⟩ := b9 i i0 hi
      have : v' = v := by omega
      subst this
      have au : arc s u v' := (ha u v' j i (by omega) (Nat.le_refl i) w4 w5).mpr w7
      obtain ⟨t, t1, t2, t3, t4, t5⟩ := sp_52 au
      have t12 : ∀ k, t.1 12 k = s0.1 12 k := fun k => (t2.2.1 12 k (by omega) (by omega)).trans (h1 k)
      obtain ⟨w, y1, y2, y3, y4, y5⟩ := ih j (x + 1) u t t12 (by omega) w4 w2 (by omega) (by omega) (fun a b i1 i2 h1 h2 h3 h4 => by
        have na : a ≠ v' := fun h => by
          have := b6 i1 i (by omega) hi (by rw [h3, hv, h])
          omega
        have nb : b ≠ v' := fun h => by
          have := b6 i2 i (by omega) hi (by rw [h4, hv, h])
          omega
        exact (t3 a b na nb).trans (ha a b i1 i2 (by omega) (by omega) h3 h4))
      have b18 := b3 st
      refine ⟨w, ?_, tn_tr t2 y2, fun k hk => ?_, fun c hc => ?_, fun c c9 hc hl => ?_⟩
      · have i5 : ((v' : Int)).toNat = v' := by omega
        have i3 : ((x : Int) + 1) = ((x + 1 : Nat) : Int) := by omega
        have st18 : (st : Int) < 18 := by
          obtain ⟨z, z1, z2, z3⟩ := b4 0 b7
          rw [b8] at z2
          omega
        rw [gm_51_5, i5, h1, w6, t1, i3]
        simp (disch := omega) only [if_pos, if_neg, Option.bind_some, t12, w6]
        exact y1
      · rw [y3 k hk, t4 k hk]
        omega
      · rw [y4 c fun k hk => hc k (by omega)]
        exact t5 c (fun h => hc j (by omega) (by rw [w4, h.1])) (fun h => hc i (by omega) (by rw [hv, h.2]))
      · rw [y4 c fun k hk h => by
          have := b6 k i (by omega) hi (by rw [h, hv, hc])
          omega]
        refine t5 c (fun h => ?_) (fun h => ?_)
        · omega
        · obtain ⟨h, h'⟩ := h
          subst h
          rw [h'] at au
          unfold arc at au
          rw [show 8 + c - 8 = c by omega] at au
          rcases au with z | z | z | z
          · omega
          · omega
          · omega
          · have := z.2.2.2
            omega
/-- turnWay: where the search has found the way's end -/
theorem sp_51 {s : gx_S} {st q g : Nat} (B : BF s st q) (hg : g < 18) (h : s.1 12 g ≠ -1) : ∃ t : gx_S, gm_51 st g s = some t ∧ tn s t ∧ (∀ w, w < 18 → ph t w = ph s w + (if w = st then 1 else 0) - (if w = g then 1 else 0)) ∧ ∀ c, c < 9 → g = 8 + c → s.1 11 c ≤ s.1 9 c → t.1 11 c = s.1 11 c := by
  obtain ⟨i, i1, i2⟩ := B.2.2.2.2.1 g hg h
  have q18 : (q : Int) ≤ 18 := by
    rw [B.2.1]
    exact sg_le (f := fun v => bi (s.1 12 v ≠ -1)) (g := fun _ => 1) (n := 18) fun k _ => (bi_r _).2
  obtain ⟨t, t1, t2, t3, t4, t5⟩ := sl_51 B 100000 i 0 g s (fun _ => rfl) i1 i2 hg (by omega) (by omega) (fun _ _ _ _ _ _ _ _ => Iff.rfl)
  exact ⟨t, t1, t2, t3, t5⟩
