/-! THE CLASS: fill, clear, add; its map beside the reference's -/
theorem gx_a_s {t k n : Nat} (h : gx_a t k n = true) : k < fx_N ∧ (fx_sh k).1 = t ∧ (fx_sh k).2 = n := by
  simp only [gx_a, Bool.and_eq_true] at h
  exact ⟨Nat.le_of_ble_eq_true h.1.1.1, Nat.eq_of_beq_eq_true h.1.1.2, Nat.eq_of_beq_eq_true h.1.2⟩
theorem sl_235g {k n : Nat} {v : Int} (h : gx_a 0 k n = true) (hn : n ≤ 1000) : ∀ (m i : Nat) (s : gx_S), n < m + i → i ≤ n → ∃ t : gx_S, gm_235_5 m k v i n s = some t ∧ t.2 = s.2 ∧ (∀ k' j, k' ≠ k → t.1 k' j = s.1 k' j) ∧ ∀ j, t.1 k j = if i ≤ j ∧ j < n then v else s.1 k j := by
  obtain ⟨h1, h2, h3⟩ := gx_a_s h
  have hp : gx_p k = true := by
    unfold gx_p
    rw [h3]
    exact h
  intro m
  induction m with
  | zero => intro i s q; omega
  | succ m ih =>
    intro i s q hi
    rw [gm_235_5, if_pos (by omega), if_pos (by omega)]
    by_cases e : i = n
    · rw [if_pos (by omega)]
      exact ⟨s, rfl, rfl, fun _ _ _ => rfl, fun j => by rw [if_neg (by omega)]⟩
    · have ce : ((i : Int) + 1) = ((i + 1 : Nat) : Int) := rfl
      have i5 : ((i : Int)).toNat = i := by omega
      rw [if_neg (by omega), if_pos hp, if_pos (by rw [h3]; omega), i5, ce]
      obtain ⟨t, t1, t2, t3, t4⟩ := ih (i + 1) (gw1 s k i v) (by omega) (by omega)
      refine ⟨t, t1, t2, fun k' j x => by rw [t3 k' j x, gw1_1, if_neg (fun y => x y.1)], fun j => ?_⟩
      rw [t4, gw1_1]
      by_cases e2 : j = i
      · rw [if_neg (by omega), if_pos ⟨rfl, e2⟩, if_pos (by omega)]
      · rw [if_neg (show ¬ (k = k ∧ j = i) from fun y => e2 y.2)]
        by_cases e3 : i + 1 ≤ j ∧ j < n
        · rw [if_pos e3, if_pos (by omega)]
        · rw [if_neg e3, if_neg (by omega)]
theorem sp_235g {k n : Nat} (v : Int) (s : gx_S) (h : gx_a 0 k n = true) (h0 : 0 < n) (hn : n ≤ 1000) : ∃ t : gx_S, gm_235 k v s = some t ∧ t.2 = s.2 ∧ (∀ k' j, k' ≠ k → t.1 k' j = s.1 k' j) ∧ ∀ j, t.1 k j = if j < n then v else s.1 k j := by
  obtain ⟨h1, h2, h3⟩ := gx_a_s h
  obtain ⟨t, t1, t2, t3, t4⟩ := sl_235g (v := v) h hn 100000 0 s (by omega) (by omega)
  have t1 : gm_235_5 100000 k v 0 n s = some t := t1
  refine ⟨t, ?_, t2, t3, fun j => ?_⟩
  · unfold gm_235
    rw [if_pos, h3, t1]
    refine ⟨?_, Prod.ext h2 rfl⟩
    unfold fx_ok
    rw [h3]
    simp only [Bool.and_eq_true]
    refine ⟨⟨⟨Nat.ble_eq_true_of_le h1, Nat.beq_refl _⟩, by decide⟩, Nat.ble_eq_true_of_le ?_⟩
    show (0 : Int32).toNatClampNeg + 1 ≤ n
    have : (0 : Int32).toNatClampNeg = 0 := by decide
    omega
  · rw [t4]
    by_cases e : j < n
    · rw [if_pos ⟨by omega, e⟩, if_pos e]
    · rw [if_neg (fun x => e x.2), if_neg e]
theorem sp_68 {t : Nat} (s : gx_S) (ht : fx_oc t 7 = true) : ∃ u : gx_S, gm_68 t s = some u ∧ u.2 = s.2 ∧ (∀ j, j < 8 → u.1 (t + 1) j = 0) ∧ (∀ j, j < 72 → u.1 (t + 4) j = 0 ∧ u.1 (t + 5) j = 0) ∧ ∀ k j, k ≠ t + 1 → k ≠ t + 4 → k ≠ t + 5 → u.1 k j = s.1 k j := by
  obtain ⟨a, a1, a2, a3, a4⟩ := sp_235g 0 s (ga_7_0 ht) (by omega) (by omega)
  obtain ⟨b, b1, b2, b3, b4⟩ := sp_235g 0 a (ga_7_3 ht) (by omega) (by omega)
  obtain ⟨c, c1, c2, c3, c4⟩ := sp_235g 0 b (ga_7_4 ht) (by omega) (by omega)
  refine ⟨c, ?_, c2.trans (b2.trans a2), fun j hj => ?_, fun j hj => ⟨?_, ?_⟩, fun k j h1 h2 h3 => ?_⟩
  · unfold gm_68
    rw [if_pos ht, a1, Option.bind_some, b1, Option.bind_some, c1, Option.bind_some]
  · rw [c3 _ _ (by omega), b3 _ _ (by omega), a4, if_pos hj]
  · rw [c3 _ _ (by omega), b4, if_pos hj]
  · rw [c4, if_pos hj]
  · rw [c3 _ _ h3, b3 _ _ h2, a3 _ _ h1]
/-- an entry gets more weight and more cells -/
def adt (s : gx_S) (t x y : Nat) (v w : Int) : gx_S := gw1 (gw1 s (t + 4) (9 * x + y) (s.1 (t + 4) (9 * x + y) + v)) (t + 5) (9 * x + y) (s.1 (t + 5) (9 * x + y) + w)
theorem sp_69 {t x y : Nat} {v w : Int} (s : gx_S) (ht : fx_oc t 7 = true) (hx : x < 8) (hy : y < 9) : gm_69 t x y v w s = some (adt s t x y v w) := by
  have i1 : (((x : Int) * 9 + (y : Int))).toNat = 9 * x + y := by omega
  unfold gm_69
  rw [if_pos ht, if_pos (by omega), i1, gw1_1 s (t + 4) (9 * x + y) _ (t + 5) (9 * x + y), if_neg (by omega)]
  rfl
theorem adt_4 (s : gx_S) (t x y : Nat) (v w : Int) (i : Nat) : (adt s t x y v w).1 (t + 4) i = s.1 (t + 4) i + if i = 9 * x + y then v else 0 := by
  unfold adt
  rw [gw1_1, if_neg (by omega), gw1_1]
  by_cases e : i = 9 * x + y
  · rw [if_pos ⟨rfl, e⟩, if_pos e, e]
  · rw [if_neg (fun h => e h.2), if_neg e]
    omega
theorem adt_5 (s : gx_S) (t x y : Nat) (v w : Int) (i : Nat) : (adt s t x y v w).1 (t + 5) i = s.1 (t + 5) i + if i = 9 * x + y then w else 0 := by
  unfold adt
  rw [gw1_1]
  by_cases e : i = 9 * x + y
  · rw [if_pos ⟨rfl, e⟩, if_pos e, e]
  · rw [if_neg (fun h => e h.2), gw1_1, if_neg (by omega), if_neg e]
    omega
theorem adt_o (s : gx_S) (t x y : Nat) (v w : Int) (k i : Nat) (h1 : k ≠ t + 4) (h2 : k ≠ t + 5) : (adt s t x y v w).1 k i = s.1 k i := by
  unfold adt
  rw [gw1_1, if_neg (fun x => h2 x.1), gw1_1, if_neg (fun x => h1 x.1)]
/-- a State of the class beside a map of the reference -/
def MR (s : gx_S) (a : Nat) (f : Nat → Int) (R C : Nat) : Prop := s.1 a 4 = f 0 ∧ s.1 a 5 = f 1 ∧ s.1 a 6 = f 2 ∧ s.1 a 7 = f 3 ∧ s.1 a 8 = f 4 ∧ (∀ i, i < 27 → s.1 (a + 2) i = f (5 + i)) ∧ (∀ i, i < 12 → s.1 (a + 3) i = f (32 + i)) ∧ (∀ z, z < 8 → s.1 (a + 4) z = f (44 + z)) ∧ ∀ l, l < 3 → f 2 / 2 ^ l % 2 = 1 → ∀ k, k < R * C → s.1 (a + 1) (96 * l + k) = f (52 + 96 * l + 12 * (k / C) + k % C)
theorem MR_cz {s : gx_S} {f : Nat → Int} {R C : Nat} (h : MR s 1 f R C) (M : MP f R C) : cz s 1 R C := ⟨by decide +kernel, h.1.trans M.1.1, h.2.1.trans M.1.2.1, M.1.2.2.1, M.1.2.2.2⟩
theorem sp_62g {s : gx_S} {f : Nat → Int} {R C : Nat} (h : MR s 1 f R C) (M : MP f R C) (l : Nat) (z : Int) (hl : l < 3) (hz : -2147483648 ≤ z ∧ z ≤ 2147483647) : gm_62 1 l z s = some (NC f R C l z, s) := by
  obtain ⟨h1, h2, h3, h4, h5, h6, h7, h8, h9⟩ := id h
  have e6 := h3
  unfold NC
  by_cases b : f 2 / 2 ^ l % 2 = 1
  · have m8 := M.2.2.2.2.2.2.2.1 l hl b
    have c := sp_62 (MR_cz h M) l z hl (by rw [e6]; exact M.2.1) hz (fun k hk => by
      rw [show (1 : Nat) + 1 = 2 from rfl]
      have a := h9 l hl b k hk
      have d := m8 k hk
      rw [show (1 : Nat) + 1 = 2 from rfl] at a
      rw [a]
      split at d <;> omega)
    rw [c, e6, if_pos b, if_pos b]
    have q : sg (fun k => bi (s.1 (1 + 1) (96 * l + k) = z)) (R * C) = sg (fun k => bi (f (52 + 96 * l + 12 * (k / C) + k % C) = z)) (R * C) := sg_eq fun k hk => by rw [h9 l hl b k hk]
    rw [q]
  · have c62 : gm_62 1 l z s = some (0, s) := by
      unfold gm_62
      rw [if_pos (by decide +kernel), sp_56 (by decide +kernel) l hl (by rw [e6]; exact M.2.1), e6, decide_eq_false b, Option.bind_some]
      rfl
    rw [c62, if_neg b]
theorem sp_66g {s : gx_S} {f : Nat → Int} {R C g : Nat} (h : MR s 1 f R C) (hg : g < 3) : gm_66 1 g s = some (sg (fun z => f (5 + 9 * g + z)) 9, s) := by
  have c := sp_66 (s := s) (a := 1) (by decide +kernel) g hg
  rw [c]
  have e : sg (fun k => s.1 (1 + 2) (9 * g + k)) 9 = sg (fun z => f (5 + 9 * g + z)) 9 := sg_eq fun z hz => by
    rw [h.2.2.2.2.2.1 (9 * g + z) (by omega)]
    congr 1
    omega
  rw [e]
