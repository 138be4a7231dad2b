/-! THE CLASS's TABLE: giveByRests, round -/
theorem gc1_j (s : gx_S) (t r j : Nat) (h : ¬ (9 * r ≤ j ∧ j < 9 * r + 9)) : (gc1 s t r).1 (t + 8) j = s.1 (t + 8) j := by
  unfold gc1
  have b := bst_r (vc s t r) 9
  split
  · rfl
  · rw [gw1_1, if_neg (by omega)]
theorem gc1_c {s v : gx_S} {t r : Nat} (h6 : ∀ c, c < 9 → v.1 (t + 6) (9 * r + c) = s.1 (t + 6) (9 * r + c)) (h7 : ∀ c, c < 9 → v.1 (t + 7) (9 * r + c) = s.1 (t + 7) (9 * r + c)) (h8 : ∀ c, c < 9 → v.1 (t + 8) (9 * r + c) = s.1 (t + 8) (9 * r + c)) : ∀ c, c < 9 → (gc1 v t r).1 (t + 8) (9 * r + c) = (gc1 s t r).1 (t + 8) (9 * r + c) := by
  intro c hc
  have e : bst (vc v t r) 9 = bst (vc s t r) 9 := bst_eq fun c hc => by
    unfold vc
    rw [h6 c hc, h7 c hc, h8 c hc]
  have b := bst_r (vc s t r) 9
  unfold gc1
  rw [e]
  split
  · exact h8 c hc
  · rw [gw1_1, gw1_1, h8 c hc, h8 _ (by omega)]
theorem gcn_o (t r : Nat) : ∀ (n : Nat) (s : gx_S) (k j : Nat), k ≠ t + 8 → (gcn s t r n).1 k j = s.1 k j
  | 0, _, _, _, _ => rfl
  | n + 1, s, k, j, h => (gcn_o t r n (gc1 s t r) k j h).trans (gc1_o s t r k j h)
theorem gcn_2 (t r : Nat) : ∀ (n : Nat) (s : gx_S), (gcn s t r n).2 = s.2
  | 0, _ => rfl
  | n + 1, s => (gcn_2 t r n (gc1 s t r)).trans (gc1_2 s t r)
theorem gcn_j (t r : Nat) : ∀ (n : Nat) (s : gx_S) (j : Nat), ¬ (9 * r ≤ j ∧ j < 9 * r + 9) → (gcn s t r n).1 (t + 8) j = s.1 (t + 8) j
  | 0, _, _, _ => rfl
  | n + 1, s, j, h => (gcn_j t r n (gc1 s t r) j h).trans (gc1_j s t r j h)
theorem gcn_c {t r : Nat} : ∀ (n : Nat) {s v : gx_S}, (∀ c, c < 9 → v.1 (t + 6) (9 * r + c) = s.1 (t + 6) (9 * r + c)) → (∀ c, c < 9 → v.1 (t + 7) (9 * r + c) = s.1 (t + 7) (9 * r + c)) → (∀ c, c < 9 → v.1 (t + 8) (9 * r + c) = s.1 (t + 8) (9 * r + c)) → ∀ c, c < 9 → (gcn v t r n).1 (t + 8) (9 * r + c) = (gcn s t r n).1 (t + 8) (9 * r + c)
  | 0, _, _, _, _, h8 => h8
  | n + 1, s, v, h6, h7, h8 => gcn_c n (fun c hc => by rw [gc1_o v t r _ _ (by omega), gc1_o s t r _ _ (by omega)]; exact h6 c hc) (fun c hc => by rw [gc1_o v t r _ _ (by omega), gc1_o s t r _ _ (by omega)]; exact h7 c hc) (gc1_c h6 h7 h8)
theorem sl_74n {t : Nat} (ht : fx_oc t 7 = true) : ∀ (n j : Nat) (s : gx_S), (∀ r, r < 8 → i32 (s.1 (t + 2) r) ∧ 0 ≤ lo s t r ∧ lo s t r ≤ 9 ∧ (j ≤ r → rg s t r 100000000)) → j ≤ 8 → 8 < n + j → ∃ u : gx_S, gm_74_2 n t j s = some u ∧ u.2 = s.2 ∧ (∀ r c, j ≤ r → r < 8 → c < 9 → u.1 (t + 8) (9 * r + c) = (gcn s t r (lo s t r).toNat).1 (t + 8) (9 * r + c)) ∧ (∀ k i, k ≠ t + 8 → u.1 k i = s.1 k i) ∧ ∀ i, i < 9 * j ∨ 72 ≤ i → u.1 (t + 8) i = s.1 (t + 8) i := by
  intro n
  induction n with
  | zero => intro j s h hj hn; omega
  | succ n ih =>
    intro j s h hj hn
    by_cases q : j = 8
    · subst q
      refine ⟨s, ?_, rfl, fun r c h1 h2 => by omega, fun _ _ _ => rfl, fun _ _ => rfl⟩
      rw [gm_74_2]
      simp (disch := omega) only [if_pos]
    · obtain ⟨g1, g2, g3, g4⟩ := h j (by omega)
      obtain ⟨w, hw⟩ : ∃ w : Nat, lo s t j = w := ⟨(lo s t j).toNat, by omega⟩
      have e73 : gm_73 t j s = some ((w : Int), s) := by rw [sp_73 ht (by omega) g1, ← hw]; rfl
      have e74 := sl_74 (gm_74_2 n) ht (r := j) (by omega) w 100000 0 s 100000000 (by omega) (by omega) (g4 (Nat.le_refl j)) (by omega)
      have o := gcn_o t j w s
      have lo' : ∀ r, lo (gcn s t j w) t r = lo s t r := fun r => by
        unfold lo
        simp only [o (t + 2) _ (by omega), o (t + 1) _ (by omega), o (t + 6) _ (by omega)]
      obtain ⟨u, u1, u2, u3, u4, u5⟩ := ih (j + 1) (gcn s t j w) (fun r hr => by
        rw [o _ _ (by omega), lo']
        refine ⟨(h r hr).1, (h r hr).2.1, (h r hr).2.2.1, fun hjr c hc => ?_⟩
        rw [o (t + 7) _ (by omega), o (t + 6) _ (by omega), gcn_j t j w s _ (by omega)]
        exact (h r hr).2.2.2 (by omega) c hc) (by omega) (by omega)
      have i3 : ((j : Int) + 1) = ((j + 1 : Nat) : Int) := by omega
      refine ⟨u, ?_, u2.trans (gcn_2 t j w s), fun r c h1 h2 hc => ?_, fun k i hk => (u4 k i hk).trans (o k i hk), fun i hi => (u5 i (by omega)).trans (gcn_j t j w s i (by omega))⟩
      · rw [gm_74_2, e73, Option.bind_some]
        rw [Nat.add_zero] at e74
        rw [i3] at e74
        simp (disch := omega) only [if_pos, if_neg]
        exact e74.trans u1
      · by_cases e : r = j
        · subst e
          rw [u5 _ (by omega), hw]
          rfl
        · rw [u3 r c (by omega) h2 hc, lo']
          exact gcn_c _ (fun c _ => o _ _ (by omega)) (fun c _ => o _ _ (by omega)) (fun c hc => gcn_j t j w s _ (by omega)) c hc
theorem sp_74 {s : gx_S} {t : Nat} (ht : fx_oc t 7 = true) (h : ∀ r, r < 8 → i32 (s.1 (t + 2) r) ∧ 0 ≤ lo s t r ∧ lo s t r ≤ 9 ∧ rg s t r 100000000) : ∃ u : gx_S, gm_74 t s = some u ∧ u.2 = s.2 ∧ (∀ r c, r < 8 → c < 9 → u.1 (t + 8) (9 * r + c) = (gcn s t r (lo s t r).toNat).1 (t + 8) (9 * r + c)) ∧ (∀ k i, k ≠ t + 8 → u.1 k i = s.1 k i) ∧ ∀ i, 72 ≤ i → u.1 (t + 8) i = s.1 (t + 8) i := by
  obtain ⟨u, u1, u2, u3, u4, u5⟩ := sl_74n ht 100000 0 s (fun r hr => ⟨(h r hr).1, (h r hr).2.1, (h r hr).2.2.1, fun _ => (h r hr).2.2.2⟩) (by omega) (by omega)
  refine ⟨u, ?_, u2, fun r c hr hc => u3 r c (by omega) hr hc, u4, fun i hi => u5 i (.inr hi)⟩
  unfold gm_74
  rw [if_pos ht]
  exact u1
