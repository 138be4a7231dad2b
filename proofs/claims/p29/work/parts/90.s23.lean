/-! open of the CLASS's balanced table -/
/-- totals and rests are as cutRow leaves them -/
def tv (s : gx_S) (t : Nat) : Prop := (∀ k, k < 8 → 0 ≤ s.1 (t + 2) k ∧ s.1 (t + 2) k ≤ 1000000) ∧ sg (s.1 (t + 2)) 8 ≤ 1000000 ∧ ∀ r c, r < 8 → c < 9 → 0 ≤ s.1 (t + 7) (9 * r + c) ∧ (s.1 (t + 7) (9 * r + c) < s.1 (t + 2) r ∨ s.1 (t + 7) (9 * r + c) = 0)
theorem tv_i32 {s : gx_S} {t : Nat} (h : tv s t) : ∀ k, k < 72 → i32 (s.1 (t + 7) k) := fun k hk => by
  have a := h.2.2 (k / 9) (k % 9) (by omega) (by omega)
  have b := h.1 (k / 9) (by omega)
  rw [show 9 * (k / 9) + k % 9 = k by omega] at a
  unfold i32
  omega
theorem ro_B {s : gx_S} {t : Nat} (h : tv s t) {c : Nat} (hc : c < 9) {K : Int} (hK : 0 ≤ K) : 0 ≤ ro s t c K ∧ ro s t c K ≤ 8 * K := by
  have e : ∀ r, r < 8 → 0 ≤ (if s.1 (t + 2) r ≤ 0 then 0 else s.1 (t + 7) (9 * r + c) * (K / s.1 (t + 2) r)) ∧ (if s.1 (t + 2) r ≤ 0 then 0 else s.1 (t + 7) (9 * r + c) * (K / s.1 (t + 2) r)) ≤ K := fun r hr => by
    have a := h.2.2 r c hr hc
    by_cases v : s.1 (t + 2) r ≤ 0
    · rw [if_pos v]
      omega
    · rw [if_neg v]
      have q0 : 0 ≤ K / s.1 (t + 2) r := Int.ediv_nonneg hK (by omega)
      refine ⟨Int.mul_nonneg a.1 q0, ?_⟩
      have b : s.1 (t + 7) (9 * r + c) * (K / s.1 (t + 2) r) ≤ s.1 (t + 2) r * (K / s.1 (t + 2) r) := Int.mul_le_mul_of_nonneg_right (by omega) q0
      have d := Int.mul_ediv_self_le (x := K) (k := s.1 (t + 2) r) (by omega)
      exact Int.le_trans b d
  refine ⟨sg_nn fun r hr => (e r hr).1, ?_⟩
  have a := sg_le (f := fun r => if s.1 (t + 2) r ≤ 0 then 0 else s.1 (t + 7) (9 * r + c) * (K / s.1 (t + 2) r)) (g := fun _ => K) (n := 8) fun r hr => (e r hr).2
  have b : sg (fun _ => K) 8 = 0 + K + K + K + K + K + K + K + K := rfl
  unfold ro
  omega
theorem sl_42a {t : Nat} {K : Int} (h14 : 14 ≤ t) : ∀ (n j : Nat) (s : gx_S), (∀ k, k < 72 → i32 (s.1 (t + 7) k)) → j ≤ 72 → 72 < n + j → ∃ u : gx_S, gm_42_8 n t K j s = gm_42_54 100000 t K 0 u ∧ u.2 = s.2 ∧ (∀ k i, k ≠ 7 → k ≠ 8 → u.1 k i = s.1 k i) ∧ (∀ i, j ≤ i → i < 72 → u.1 7 i = (if s.1 (t + 7) i ≤ 0 then 0 else 1) ∧ u.1 8 i = 0) ∧ ∀ i, i < j → u.1 7 i = s.1 7 i ∧ u.1 8 i = s.1 8 i := by
  intro n
  induction n with
  | zero => intro j s h hj hn; omega
  | succ n ih =>
    intro j s h hj hn
    by_cases q : j = 72
    · subst q
      refine ⟨s, ?_, rfl, fun _ _ _ _ => rfl, fun i h1 h2 => by omega, fun _ _ => ⟨rfl, rfl⟩⟩
      rw [gm_42_8]
      simp (disch := omega) only [if_pos]
    · have hi := h j (by omega)
      unfold i32 at hi
      have i5 : ((j : Int)).toNat = j := by omega
      have i3 : ((j : Int) + 1) = ((j + 1 : Nat) : Int) := by omega
      have o : ∀ (x : Int) k i, k ≠ 7 → k ≠ 8 → (gw1 (gw1 s 7 j x) 8 j 0).1 k i = s.1 k i := fun x k i h7 h8 => by rw [gw1_1, if_neg (fun y => h8 y.1), gw1_1, if_neg (fun y => h7 y.1)]
      obtain ⟨u, u1, u2, u3, u4, u5⟩ := ih (j + 1) (gw1 (gw1 s 7 j (if s.1 (t + 7) j ≤ 0 then 0 else 1)) 8 j 0) (fun k hk => by rw [o _ _ _ (by omega) (by omega)]; exact h k hk) (by omega) (by omega)
      refine ⟨u, ?_, u2, fun k i h7 h8 => (u3 k i h7 h8).trans (o _ k i h7 h8), fun i h1 h2 => ?_, fun i hi => ?_⟩
      · rw [gm_42_8, i5]
        by_cases w : s.1 (t + 7) j ≤ 0
        · rw [if_pos w] at u1
          simp (disch := omega) only [if_pos, if_neg, gm_42_36, i5, i3]
          exact u1
        · rw [if_neg w] at u1
          simp (disch := omega) only [if_pos, if_neg, gm_42_36, i5, i3]
          exact u1
      · by_cases e : i = j
        · subst e
          obtain ⟨a, b⟩ := u5 i (by omega)
          refine ⟨?_, ?_⟩
          · rw [a, gw1_1, if_neg (by omega), gw1_1, if_pos ⟨rfl, rfl⟩]
          · rw [b, gw1_1, if_pos ⟨rfl, rfl⟩]
        · have a := u4 i (by omega) h2
          rw [o _ _ _ (by omega) (by omega)] at a
          exact a
      · obtain ⟨a, b⟩ := u5 i (by omega)
        refine ⟨?_, ?_⟩
        · rw [a, gw1_1, if_neg (by omega), gw1_1, if_neg (by omega)]
        · rw [b, gw1_1, if_neg (by omega), gw1_1, if_neg (by omega)]
theorem sl_42b {t : Nat} {K : Int} (ht : fx_oc t 7 = true) (hK : 0 < K ∧ K ≤ 20000000000000000) : ∀ (n j : Nat) (s : gx_S), tv s t → j ≤ 9 → 9 < n + j → ∃ u : gx_S, gm_42_54 n t K j s = some u ∧ u.2 = s.2 ∧ (∀ k i, k ≠ 9 → k ≠ 10 → k ≠ 11 → u.1 k i = s.1 k i) ∧ (∀ i, j ≤ i → i < 9 → u.1 9 i = ro s t i K / K ∧ u.1 10 i = ro s t i K / K + (if ro s t i K % K = 0 then 0 else 1) ∧ u.1 11 i = 0) ∧ ∀ i, i < j → u.1 9 i = s.1 9 i ∧ u.1 10 i = s.1 10 i ∧ u.1 11 i = s.1 11 i := by
  have t14 := oc7_14 ht
  intro n
  induction n with
  | zero => intro j s h hj hn; omega
  | succ n ih =>
    intro j s h hj hn
    by_cases q : j = 9
    · subst q
      refine ⟨s, ?_, rfl, fun _ _ _ _ _ => rfl, fun i h1 h2 => by omega, fun _ _ => ⟨rfl, rfl, rfl⟩⟩
      rw [gm_42_54]
      simp (disch := omega) only [if_pos]
    · have hr := ro_B h (c := j) (by omega) (K := K) (by omega)
      have i5 : ((j : Int)).toNat = j := by omega
      have i3 : ((j : Int) + 1) = ((j + 1 : Nat) : Int) := by omega
      have m0 := Int.emod_nonneg (ro s t j K) (b := K) (by omega)
      have m1 := Int.emod_lt_of_pos (ro s t j K) (b := K) (by omega)
      have e79 := sp_79 ht (c := j) (by omega) h.1 (tv_i32 h) (K := K) (by omega)
      have o : ∀ (x y : Int) k i, k ≠ 9 → k ≠ 10 → k ≠ 11 → (gw1 (gw1 (gw1 s 9 j x) 10 j y) 11 j 0).1 k i = s.1 k i := fun x y k i h9 h10 h11 => by rw [gw1_1, if_neg (fun y => h11 y.1), gw1_1, if_neg (fun y => h10 y.1), gw1_1, if_neg (fun y => h9 y.1)]
      have roe : ∀ x y c, ro (gw1 (gw1 (gw1 s 9 j x) 10 j y) 11 j 0) t c K = ro s t c K := fun x y c => by
        unfold ro
        simp only [o x y (t + 2) _ (by omega) (by omega) (by omega), o x y (t + 7) _ (by omega) (by omega) (by omega)]
      have tve : ∀ x y, tv (gw1 (gw1 (gw1 s 9 j x) 10 j y) 11 j 0) t := fun x y => by
        unfold tv
        rw [show (gw1 (gw1 (gw1 s 9 j x) 10 j y) 11 j 0).1 (t + 2) = s.1 (t + 2) from funext fun k => o x y (t + 2) k (by omega) (by omega) (by omega), show (gw1 (gw1 (gw1 s 9 j x) 10 j y) 11 j 0).1 (t + 7) = s.1 (t + 7) from funext fun k => o x y (t + 7) k (by omega) (by omega) (by omega)]
        exact h
      obtain ⟨u, u1, u2, u3, u4, u5⟩ := ih (j + 1) (gw1 (gw1 (gw1 s 9 j (ro s t j K / K)) 10 j (ro s t j K / K + (if ro s t j K % K = 0 then 0 else 1))) 11 j 0) (tve _ _) (by omega) (by omega)
      refine ⟨u, ?_, u2, fun k i h9 h10 h11 => (u3 k i h9 h10 h11).trans (o _ _ k i h9 h10 h11), fun i h1 h2 => ?_, fun i hi => ?_⟩
      · have x9 : (gw1 s 9 j (ro s t j K / K)).1 9 j = ro s t j K / K := by rw [gw1_1, if_pos ⟨rfl, rfl⟩]
        rw [gm_42_54, e79]
        by_cases w : ro s t j K % K = 0
        · rw [if_pos w] at u1
          simp (disch := omega) only [if_pos, if_neg, Option.bind_some, gm_42_115, i5, i3, x9]
          exact u1
        · rw [if_neg w] at u1
          simp (disch := omega) only [if_pos, if_neg, Option.bind_some, gm_42_115, i5, i3, x9]
          exact u1
      · by_cases e : i = j
        · subst e
          obtain ⟨a, b, c⟩ := u5 i (by omega)
          refine ⟨?_, ?_, ?_⟩
          · rw [a, gw1_1, if_neg (by omega), gw1_1, if_neg (by omega), gw1_1, if_pos ⟨rfl, rfl⟩]
          · rw [b, gw1_1, if_neg (by omega), gw1_1, if_pos ⟨rfl, rfl⟩]
          · rw [c, gw1_1, if_pos ⟨rfl, rfl⟩]
        · have a := u4 i (by omega) h2
          rw [roe] at a
          exact a
      · obtain ⟨a, b, c⟩ := u5 i (by omega)
        refine ⟨?_, ?_, ?_⟩
        · rw [a, gw1_1, if_neg (by omega), gw1_1, if_neg (by omega), gw1_1, if_neg (by omega)]
        · rw [b, gw1_1, if_neg (by omega), gw1_1, if_neg (by omega), gw1_1, if_neg (by omega)]
        · rw [c, gw1_1, if_neg (by omega), gw1_1, if_neg (by omega), gw1_1, if_neg (by omega)]
/-- open: entries with rests are free, columns' least and most -/
theorem sp_42 {t : Nat} {s : gx_S} (ht : fx_oc t 7 = true) (h : tv s t) (h8 : sg (s.1 (t + 2)) 8 ≤ 864) : ∃ u : gx_S, gm_42 t s = some u ∧ scg t s u ∧ (∀ i, u.1 (t + 8) i = s.1 (t + 8) i) ∧ (∀ i, i < 72 → u.1 7 i = (if s.1 (t + 7) i ≤ 0 then 0 else 1) ∧ u.1 8 i = 0) ∧ ∀ i, i < 9 → u.1 9 i = ro s t i (cm (s.1 (t + 2)) 8 : Nat) / (cm (s.1 (t + 2)) 8 : Nat) ∧ u.1 10 i = ro s t i (cm (s.1 (t + 2)) 8 : Nat) / (cm (s.1 (t + 2)) 8 : Nat) + (if ro s t i (cm (s.1 (t + 2)) 8 : Nat) % (cm (s.1 (t + 2)) 8 : Nat) = 0 then 0 else 1) ∧ u.1 11 i = 0 := by
  have t14 := oc7_14 ht
  have hB := cm_B (v := s.1 (t + 2)) (fun k hk => (h.1 k hk).1) h8 (n := 8) (by omega)
  have hP := cm_pos (s.1 (t + 2)) 8
  obtain ⟨a, a1, a2, a3, a4, a5⟩ := sl_42a (K := (cm (s.1 (t + 2)) 8 : Nat)) t14 100000 0 s (tv_i32 h) (by omega) (by omega)
  have z2 : a.1 (t + 2) = s.1 (t + 2) := funext fun k => a3 _ _ (by omega) (by omega)
  have z7 : a.1 (t + 7) = s.1 (t + 7) := funext fun k => a3 _ _ (by omega) (by omega)
  have tva : tv a t := by
    unfold tv
    rw [z2, z7]
    exact h
  have roa : ∀ c K, ro a t c K = ro s t c K := fun c K => by
    unfold ro
    rw [z2, z7]
  obtain ⟨u, u1, u2, u3, u4, u5⟩ := sl_42b (K := (cm (s.1 (t + 2)) 8 : Nat)) ht (by omega) 100000 0 a tva (by omega) (by omega)
  refine ⟨u, ?_, ⟨u2.trans a2, fun k j q1 q2 q3 => (u3 k j (by omega) (by omega) (by omega)).trans (a3 k j (by omega) (by omega))⟩, fun i => (u3 _ i (by omega) (by omega) (by omega)).trans (a3 _ i (by omega) (by omega)), fun i hi => ?_, fun i hi => ?_⟩
  · unfold gm_42
    rw [if_pos ht, sp_78 ht h.1 h8, Option.bind_some]
    exact a1.trans u1
  · rw [u3 7 i (by omega) (by omega) (by omega), u3 8 i (by omega) (by omega) (by omega)]
    exact a4 i (by omega) hi
  · have b := u4 i (by omega) hi
    rw [roa] at b
    exact b
