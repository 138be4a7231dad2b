/-! REMAINDERS: there are rests enough -/
theorem sg_mul (x : Int) (f : Nat → Int) : ∀ n : Nat, sg (fun c => x * f c) n = x * sg f n
  | 0 => by simp only [sg, Int.mul_zero]
  | n + 1 => by simp only [sg, sg_mul x f n, Int.mul_add]
theorem sg_add (f g : Nat → Int) : ∀ n : Nat, sg (fun c => f c + g c) n = sg f n + sg g n
  | 0 => rfl
  | n + 1 => by simp only [sg, sg_add f g n]; omega
theorem sg_upd {f g : Nat → Int} {i : Nat} {x : Int} (hg : g i = f i + x) (ho : ∀ c, c ≠ i → g c = f c) : ∀ {n : Nat}, i < n → sg g n = sg f n + x
  | 0, h => absurd h (by omega)
  | n + 1, h => by
    simp only [sg]
    by_cases e : i = n
    · subst e
      rw [hg, sg_eq (f := g) (g := f) (n := i) fun k hk => ho k (by omega)]
      omega
    · rw [ho n (fun q => e q.symm), sg_upd (f := f) (g := g) hg ho (n := n) (by omega)]
      omega
theorem bs_none {s : gx_S} {r : Nat} : ∀ {m : Nat}, bs s r m = -1 → ∀ c, c < m → s.2 225 (9 * r + c) ≤ 0
  | 0, _, c, hc => absurd hc (by omega)
  | m + 1, h, c, hc => by
    simp only [bs] at h
    split at h
    · omega
    · rename_i g
      by_cases e : c = m
      · subst e
        rw [h] at g
        have := fun u => g ⟨u, Or.inl rfl⟩
        omega
      · exact bs_none h c (by omega)
/-- the best: positive, the greatest, the first of like ones -/
theorem bs_some {s : gx_S} {r : Nat} : ∀ {m : Nat}, 0 ≤ bs s r m → 0 < s.2 225 (9 * r + (bs s r m).toNat) ∧ (∀ c, c < m → s.2 225 (9 * r + c) ≤ s.2 225 (9 * r + (bs s r m).toNat)) ∧ ∀ c : Nat, (c : Int) < bs s r m → s.2 225 (9 * r + c) < s.2 225 (9 * r + (bs s r m).toNat)
  | 0, h => absurd h (by simp only [bs]; omega)
  | m + 1, h => by
    have b1 := bs_r s r m
    simp only [bs] at h ⊢
    by_cases g : 0 < s.2 225 (9 * r + m) ∧ (bs s r m = -1 ∨ s.2 225 (9 * r + (bs s r m).toNat) < s.2 225 (9 * r + m))
    · rw [if_pos g]
      rw [Int.toNat_natCast]
      have key : ∀ c, c < m → s.2 225 (9 * r + c) < s.2 225 (9 * r + m) := by
        intro c hc
        rcases g.2 with g2 | g2
        · have := bs_none g2 c hc
          omega
        · by_cases q : 0 ≤ bs s r m
          · have := (bs_some q).2.1 c hc
            omega
          · have := bs_none (show bs s r m = -1 by omega) c hc
            omega
      refine ⟨g.1, fun c hc => ?_, fun c hc => key c (by omega)⟩
      by_cases e : c = m
      · subst e; omega
      · have := key c (by omega); omega
    · rw [if_neg g] at h ⊢
      obtain ⟨h1, h2, h3⟩ := bs_some h
      refine ⟨h1, fun c hc => ?_, h3⟩
      by_cases e : c = m
      · subst e
        by_cases p : 0 < s.2 225 (9 * r + c)
        · have := fun u => g ⟨p, Or.inr u⟩
          omega
        · omega
      · exact h2 c (by omega)
/-- how many rests are left -/
def ps (s : gx_S) (r m : Nat) : Int := sg (fun c => bi (0 < s.2 225 (9 * r + c))) m
theorem bs_of_ps {s : gx_S} {r m : Nat} (h : 0 < ps s r m) : 0 ≤ bs s r m := by
  have b := bs_r s r m
  by_cases q : bs s r m = -1
  · have : ps s r m = 0 := sg_0 fun c hc => if_neg (by have := bs_none q c hc; omega)
    omega
  · omega
theorem ps_gv1 {s : gx_S} {r m : Nat} (h : 0 ≤ bs s r m) : ps (gv1 s r m) r m = ps s r m - 1 := by
  have b := bs_r s r m
  obtain ⟨h1, h2, h3⟩ := bs_some h
  have g0 : (gv1 s r m).2 225 (9 * r + (bs s r m).toNat) = 0 := by
    simp only [gv1, gw2_2]
    grind
  have g1 : ∀ c, c ≠ (bs s r m).toNat → (gv1 s r m).2 225 (9 * r + c) = s.2 225 (9 * r + c) := by
    intro c hc
    simp only [gv1, gw2_2]
    grind
  have e := sg_upd (f := fun c => bi (0 < s.2 225 (9 * r + c))) (g := fun c => bi (0 < (gv1 s r m).2 225 (9 * r + c))) (i := (bs s r m).toNat) (x := -1) (by
    show bi (0 < (gv1 s r m).2 225 (9 * r + (bs s r m).toNat)) = bi (0 < s.2 225 (9 * r + (bs s r m).toNat)) + -1
    rw [g0]
    simp only [bi]
    rw [if_neg (by omega), if_pos h1]
    rfl) (fun c hc => by
    show bi (0 < (gv1 s r m).2 225 (9 * r + c)) = bi (0 < s.2 225 (9 * r + c))
    rw [g1 c hc]) (n := m) (by omega)
  unfold ps
  omega
theorem gv1_1 (s : gx_S) (r m : Nat) : (gv1 s r m).1 = s.1 := rfl
theorem gv1_225 {s : gx_S} {r m c : Nat} {x : Int} (h : s.2 225 (9 * r + c) ≤ x) (hx : 0 ≤ x) : (gv1 s r m).2 225 (9 * r + c) ≤ x := by
  simp only [gv1, gw2_2]
  split
  · omega
  · rw [if_neg (by omega)]; exact h
theorem gv1_225n {s : gx_S} {r m c : Nat} (h : 0 ≤ s.2 225 (9 * r + c)) : 0 ≤ (gv1 s r m).2 225 (9 * r + c) := by
  simp only [gv1, gw2_2]
  split
  · omega
  · rw [if_neg (by omega)]; exact h
/-- as many as there are rests can be given -/
theorem sp_gvn {r m : Nat} (hr : r < 8) (hm : m ≤ 9) : ∀ (i : Nat) (s : gx_S), s.1 215 18 = m → (i : Int) ≤ ps s r m → (∀ c, c < m → 0 ≤ s.2 225 (9 * r + c) ∧ s.2 225 (9 * r + c) ≤ 1000000000) → ∀ j, j < i → (gvn s r m j).1 215 18 = m ∧ 0 ≤ bs (gvn s r m j) r m ∧ ∀ c, c < m → -1000000000 ≤ (gvn s r m j).2 225 (9 * r + c) ∧ (gvn s r m j).2 225 (9 * r + c) ≤ 1000000000 := by
  intro i
  induction i with
  | zero => intro s _ _ _ j hj; omega
  | succ i ih =>
    intro s h1 h2 h3 j hj
    have b0 := bs_of_ps (s := s) (r := r) (m := m) (by omega)
    cases j with
    | zero => exact ⟨h1, b0, fun c hc => ⟨by have := (h3 c hc).1; show -1000000000 ≤ s.2 225 (9 * r + c); omega, (h3 c hc).2⟩⟩
    | succ j => exact ih (gv1 s r m) h1 (by rw [ps_gv1 b0]; omega) (fun c hc => ⟨gv1_225n (h3 c hc).1, gv1_225 (h3 c hc).2 (by omega)⟩) j (by omega)
/-- a row cut by its parts: those left over are no more than its rests -/
theorem left_ps {p W : Int} {a : Nat → Int} {m : Nat} (hp : 0 ≤ p) (hW : 0 < W) (ha : ∀ c, c < m → 0 ≤ a c) (hs : sg a m = W) : 0 ≤ p - sg (fun c => p * a c / W) m ∧ p - sg (fun c => p * a c / W) m ≤ sg (fun c => bi (0 < p * a c % W)) m := by
  have e1 : sg (fun c => p * a c) m = W * sg (fun c => p * a c / W) m + sg (fun c => p * a c % W) m := by
    rw [← sg_mul W, ← sg_add]
    exact sg_eq fun c _ => (Int.mul_ediv_add_emod (p * a c) W).symm
  rw [sg_mul p a m, hs] at e1
  have e2 : 0 ≤ sg (fun c => p * a c % W) m := sg_nn fun c _ => Int.emod_nonneg _ (by omega)
  have e3 : sg (fun c => p * a c % W) m ≤ sg (fun c => (W - 1) * bi (0 < p * a c % W)) m := sg_le fun c _ => by
    have u := Int.emod_lt_of_pos (p * a c) hW
    have v := Int.emod_nonneg (p * a c) (show W ≠ 0 by omega)
    unfold bi
    by_cases q : 0 < p * a c % W
    · rw [if_pos q]; omega
    · rw [if_neg q]; omega
  rw [sg_mul (W - 1)] at e3
  have e4 : 0 ≤ sg (fun c => bi (0 < p * a c % W)) m := sg_nn fun c _ => (bi_r _).1
  generalize sg (fun c => p * a c / W) m = F at *
  generalize sg (fun c => p * a c % W) m = Z at *
  generalize sg (fun c => bi (0 < p * a c % W)) m = P at *
  have e5 : W * (p - F) = Z := by rw [Int.mul_sub, Int.mul_comm W p]; omega
  constructor
  · by_cases q : 0 ≤ p - F
    · exact q
    · have : W * (p - F) ≤ W * (-1) := Int.mul_le_mul_of_nonneg_left (by omega) (by omega)
      omega
  · by_cases q : p - F ≤ P
    · exact q
    · have h1 : W * (P + 1) ≤ W * (p - F) := Int.mul_le_mul_of_nonneg_left (by omega) (by omega)
      rw [Int.mul_add] at h1
      rw [Int.sub_mul] at e3
      omega
