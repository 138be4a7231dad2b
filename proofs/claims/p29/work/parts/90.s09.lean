/-! THE CLASS's TABLE: those left over, as the reference gives them -/
def gc1 (s : gx_S) (t r : Nat) : gx_S := if bst (vc s t r) 9 = -1 then s else gw1 s (t + 8) (9 * r + (bst (vc s t r) 9).toNat) (s.1 (t + 8) (9 * r + (bst (vc s t r) 9).toNat) + 1)
def gcn (s : gx_S) (t r : Nat) : Nat → gx_S
  | 0 => s
  | n + 1 => gcn (gc1 s t r) t r n
/-- ranges of a row -/
def rg (s : gx_S) (t r : Nat) (B : Int) : Prop := ∀ c, c < 9 → (0 ≤ s.1 (t + 7) (9 * r + c) ∧ s.1 (t + 7) (9 * r + c) ≤ 1000000000) ∧ (0 ≤ s.1 (t + 6) (9 * r + c) ∧ s.1 (t + 6) (9 * r + c) ≤ 1000000000) ∧ (0 ≤ s.1 (t + 8) (9 * r + c) ∧ s.1 (t + 8) (9 * r + c) ≤ B)
theorem gc1_o (s : gx_S) (t r k j : Nat) (h : k ≠ t + 8) : (gc1 s t r).1 k j = s.1 k j := by
  unfold gc1
  split
  · rfl
  · rw [gw1_1, if_neg (fun q => h q.1)]
theorem gc1_2 (s : gx_S) (t r : Nat) : (gc1 s t r).2 = s.2 := by
  unfold gc1
  split <;> rfl
theorem gc1_8 (s : gx_S) (t r j : Nat) : s.1 (t + 8) j ≤ (gc1 s t r).1 (t + 8) j ∧ (gc1 s t r).1 (t + 8) j ≤ s.1 (t + 8) j + 1 := by
  unfold gc1
  split
  · omega
  · rw [gw1_1]
    split
    · rename_i h; rw [h.2]; omega
    · omega
theorem rg_1 {s : gx_S} {t r : Nat} {B : Int} (h : rg s t r B) : rg (gc1 s t r) t r (B + 1) := by
  intro c hc
  obtain ⟨h1, h2, h3⟩ := h c hc
  have a := gc1_8 s t r (9 * r + c)
  rw [gc1_o s t r (t + 7) _ (by omega), gc1_o s t r (t + 6) _ (by omega)]
  exact ⟨h1, h2, by omega, by omega⟩
theorem sl_74 {t r : Nat} (k : Nat → Int → gx_S → Option gx_S) (ht : fx_oc t 7 = true) (hr : r < 8) : ∀ (i n j : Nat) (s : gx_S) (B : Int), i < n → i + j ≤ 9 → rg s t r B → B + i ≤ 1000000000 → gm_74_16 k n t r ((i + j : Nat) : Int) j s = k t ((r : Int) + 1) (gcn s t r i) := by
  intro i
  induction i with
  | zero =>
    intro n j s B h1 h2 h3 h4
    obtain ⟨n', rfl⟩ : ∃ n', n = n' + 1 := ⟨n - 1, by omega⟩
    rw [gm_74_16]
    by_cases q : j = 9
    · subst q
      simp (disch := first | omega | assumption) only [if_pos, gm_74_38]
      rfl
    · simp (disch := first | omega | assumption) only [if_pos, if_neg, gm_74_38]
      rfl
  | succ i ih =>
    intro n j s B h1 h2 h3 h4
    obtain ⟨n', rfl⟩ : ∃ n', n = n' + 1 := ⟨n - 1, by omega⟩
    rw [gm_74_16]
    have e : gm_75 t r s = some (gc1 s t r) := sp_75 ht hr (fun c hc => (h3 c hc).1) (fun c hc => ⟨(h3 c hc).2.2.1, by have := (h3 c hc).2.2.2; omega⟩) (fun c hc => (h3 c hc).2.1)
    simp (disch := first | omega | assumption) only [if_pos, if_neg, e, Option.bind_some]
    have e1 := ih n' (j + 1) (gc1 s t r) (B + 1) (by omega) (by omega) (rg_1 h3) (by omega)
    rw [show i + (j + 1) = i + 1 + j by omega, show ((j + 1 : Nat) : Int) = (j : Int) + 1 by omega] at e1
    exact e1
/-- a row of the class's table beside one of the reference's -/
def rw_ (s u : gx_S) (t r m : Nat) : Prop := (∀ c, c < m → s.1 (t + 8) (9 * r + c) = u.2 224 (9 * r + c)) ∧ (∀ c, c < m → vc s t r c = u.2 225 (9 * r + c)) ∧ ∀ c, m ≤ c → c < 9 → vc s t r c = 0
theorem bst_0 {v : Nat → Int} {m : Nat} : ∀ {n : Nat}, (∀ c, m ≤ c → c < n → v c ≤ 0) → m ≤ n → bst v n = bst v m
  | 0, _, h => by rw [show m = 0 by omega]
  | n + 1, h, hm => by
    by_cases e : m = n + 1
    · rw [e]
    · have a := bst_0 (v := v) (m := m) (n := n) (fun c h1 h2 => h c h1 (by omega)) (by omega)
      have b := h n (by omega) (by omega)
      have eb : bst v (n + 1) = if 0 < v n ∧ (bst v n = -1 ∨ v (bst v n).toNat < v n) then (n : Int) else bst v n := rfl
      rw [eb, if_neg (fun q => by have := q.1; omega), a]
theorem bst_pos {v : Nat → Int} : ∀ {m : Nat}, 0 ≤ bst v m → 0 < v (bst v m).toNat
  | 0, h => absurd h (by simp only [bst]; omega)
  | m + 1, h => by
    have eb : bst v (m + 1) = if 0 < v m ∧ (bst v m = -1 ∨ v (bst v m).toNat < v m) then (m : Int) else bst v m := rfl
    rw [eb] at h ⊢
    by_cases g : 0 < v m ∧ (bst v m = -1 ∨ v (bst v m).toNat < v m)
    · rw [if_pos g, Int.toNat_natCast]; exact g.1
    · rw [if_neg g] at h ⊢
      exact bst_pos h
theorem rw_1 {s u : gx_S} {t r m : Nat} (hm : m ≤ 9) (h : rw_ s u t r m) (hb : 0 ≤ bs u r m) : rw_ (gc1 s t r) (gv1 u r m) t r m := by
  obtain ⟨h1, h2, h3⟩ := h
  have e0 : bst (vc s t r) 9 = bs u r m := by
    rw [bst_0 (m := m) (fun c c1 c2 => by rw [h3 c c1 c2]; omega) hm, bs_bst]
    exact bst_eq h2
  have br := bs_r u r m
  obtain ⟨b, hbb⟩ : ∃ b : Nat, bs u r m = b := ⟨(bs u r m).toNat, by omega⟩
  have hbm : b < m := by omega
  have ps0 : 0 < vc s t r b := by
    have := bst_pos (v := vc s t r) (m := 9) (by rw [e0]; exact hb)
    rw [e0, hbb, Int.toNat_natCast] at this
    exact this
  have hG : s.1 (t + 8) (9 * r + b) = s.1 (t + 6) (9 * r + b) := by
    by_cases q : s.1 (t + 8) (9 * r + b) = s.1 (t + 6) (9 * r + b)
    · exact q
    · unfold vc at ps0
      rw [if_neg q] at ps0
      omega
  have g1 : gc1 s t r = gw1 s (t + 8) (9 * r + b) (s.1 (t + 8) (9 * r + b) + 1) := by
    unfold gc1
    rw [e0, hbb, if_neg (by omega), Int.toNat_natCast]
  have v1 : gv1 u r m = gw2 (gw2 u 224 (9 * r + b) (u.2 224 (9 * r + b) + 1)) 225 (9 * r + b) 0 := by
    unfold gv1
    rw [hbb, Int.toNat_natCast]
  have a8 : ∀ c, c ≠ b → (gc1 s t r).1 (t + 8) (9 * r + c) = s.1 (t + 8) (9 * r + c) := by
    intro c hc
    rw [g1, gw1_1]
    exact if_neg (by omega)
  have a8b : (gc1 s t r).1 (t + 8) (9 * r + b) = s.1 (t + 8) (9 * r + b) + 1 := by
    rw [g1, gw1_1]
    exact if_pos ⟨rfl, rfl⟩
  have vc1 : ∀ c, c ≠ b → vc (gc1 s t r) t r c = vc s t r c := by
    intro c hc
    unfold vc
    rw [gc1_o s t r (t + 7) _ (by omega), gc1_o s t r (t + 6) _ (by omega), a8 c hc]
  have vcb : vc (gc1 s t r) t r b = 0 := by
    unfold vc
    rw [gc1_o s t r (t + 7) _ (by omega), gc1_o s t r (t + 6) _ (by omega), a8b]
    exact if_neg (by omega)
  refine ⟨fun c hc => ?_, fun c hc => ?_, fun c c1 c2 => ?_⟩
  · by_cases e : c = b
    · subst e
      rw [a8b, v1, gw2_2, gw2_2, h1 c hc]
      exact ((if_neg (by omega)).trans (if_pos ⟨rfl, rfl⟩)).symm
    · rw [a8 c e, v1, gw2_2, gw2_2, h1 c hc]
      exact ((if_neg (by omega)).trans (if_neg (by omega))).symm
  · by_cases e : c = b
    · subst e
      rw [vcb, v1, gw2_2]
      exact (if_pos ⟨rfl, rfl⟩).symm
    · rw [vc1 c e, h2 c hc, v1, gw2_2, gw2_2]
      exact ((if_neg (by omega)).trans (if_neg (by omega))).symm
  · rw [vc1 c (by omega), h3 c c1 c2]
theorem rw_n {t r m : Nat} (hm : m ≤ 9) : ∀ (i : Nat) (s u : gx_S), rw_ s u t r m → (i : Int) ≤ ps u r m → rw_ (gcn s t r i) (gvn u r m i) t r m := by
  intro i
  induction i with
  | zero => intro s u h _; exact h
  | succ i ih =>
    intro s u h hp
    have hb := bs_of_ps (s := u) (r := r) (m := m) (by omega)
    exact ih (gc1 s t r) (gv1 u r m) (rw_1 hm h hb) (by rw [ps_gv1 hb]; omega)
