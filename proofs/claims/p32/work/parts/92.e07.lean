/-! THE MAP DRAWN AND TOLD -/
/-- numbers of the cells lo .. hi alone are others -/
def WM (δ ε : dS) (lo hi : Nat) : Prop := ε.P = δ.P ∧ ε.sh = δ.sh ∧ ε.n = δ.n ∧ ∀ a j, ¬ (lo ≤ a ∧ a < hi) → ε.I a j = δ.I a j
theorem WM_rf (δ : dS) (lo hi : Nat) : WM δ δ lo hi := ⟨rfl, rfl, rfl, fun _ _ _ => rfl⟩
theorem WM_tr {δ ε ζ : dS} {lo hi : Nat} (x : WM δ ε lo hi) (y : WM ε ζ lo hi) : WM δ ζ lo hi := ⟨y.1.trans x.1, y.2.1.trans x.2.1, y.2.2.1.trans x.2.2.1, fun a j h => (y.2.2.2 a j h).trans (x.2.2.2 a j h)⟩
theorem WM_w {k lo hi : Nat} (δ : dS) (j : Nat) (x : Int) (h : lo ≤ k ∧ k < hi) : WM δ (δ.w k j x) lo hi := ⟨rfl, rfl, rfl, fun a i q => by rw [dw_I, if_neg (fun t => q ⟨by omega, by omega⟩)]⟩
theorem WM_mono {δ ε : dS} {lo hi lo' hi' : Nat} (h : lo' ≤ lo ∧ hi ≤ hi') (x : WM δ ε lo hi) : WM δ ε lo' hi' := ⟨x.1, x.2.1, x.2.2.1, fun a j q => x.2.2.2 a j fun t => q (by omega)⟩
theorem DF_WM {B lo hi : Nat} {δ ε : dS} (h : B ≤ lo) (w : WM δ ε lo hi) : DF B 0 δ ε := ⟨by rw [w.2.2.1]; omega, fun a ha => ⟨fun b => w.2.2.2 a b fun q => by omega, fun b => by rw [w.1]⟩, fun a _ => by rw [w.2.1], fun a h1 h2 => by rw [w.2.2.1] at h2; omega⟩
theorem MSh_c {δ ε : dS} {m a N : Nat} (hP : ε.P = δ.P) (hs : ε.sh = δ.sh) (hn : ε.n = δ.n) (M : MSh δ m a N) : MSh ε m a N := by
  simp only [MSh, AR, dO, hP, hs, hn]
  exact M
theorem MSh_WM {δ ε : dS} {m a N lo hi : Nat} (w : WM δ ε lo hi) (M : MSh δ m a N) : MSh ε m a N := MSh_c w.1 w.2.1 w.2.2.1 M
section
variable {L0 : Nat} {xs : Nat → Int32}
theorem td_210 {K : Int → Nat → Int → Int → Int → Int → Int → gx_S → dS → Option (Nat × DS)} {x2 x7 x8 x9 x10 x12 y : Int} {m k N : Nat} {δ : dS} (s : gx_S) (M : MSh δ m (m + 10) N) (hk : k < N) (h12 : 0 ≤ x12 ∧ x12 ≤ 2147483647) (h10 : 1 ≤ x10 ∧ x10 ≤ 4) : ∃ y2 : Int, (0 ≤ y2 ∧ y2 ≤ 3) ∧ dm_240_210 L0 xs K x2 m x7 x8 x9 x10 k x12 (m + 11) k y s δ = K x2 m x7 x8 x9 x10 ((k : Int) + 1) s ((δ.w (m + 11) k y).w (m + 12) k y2) := by
  obtain ⟨-, b, ⟨c1, c2, c3⟩, -, -, -, h4, h5, h6, -⟩ := M
  obtain ⟨z, hz⟩ : ∃ z, z = (Int32.ofInt x12 >>> (Int32.ofInt 17 &&& 31)).toInt := ⟨_, rfl⟩
  have sh := nb_s (n := 17) h12 (k := 17) rfl (by omega)
  rw [← hz] at sh
  have m1 := Int.emod_nonneg z (b := x10) (by omega)
  have m2 := Int.emod_lt_of_pos z (b := x10) (by omega)
  refine ⟨z % x10, by omega, ?_⟩
  unfold dm_240_210
  rw [← hz, if_pos (AR_A c2), if_pos (AR_I c2 hk), Option.bind_some, Int.toNat_natCast, if_pos (show dO (δ.w (m + 11) k y) m 10 from b), show (δ.w (m + 11) k y).P m 6 = some (m + 12) from h6, Option.bind_some, if_pos (by omega), if_pos (show dA (δ.w (m + 11) k y) 0 (m + 12) from AR_A c3), if_pos (show dI (δ.w (m + 11) k y) (m + 12) (k : Int) from AR_I c3 hk), Option.bind_some]
theorem td_156 {K : Int → Nat → Int → Int → Int → Int → Int → gx_S → dS → Option (Nat × DS)} {x2 x7 x8 x9 x10 x12 y : Int} {m k N : Nat} {δ : dS} (s : gx_S) (M : MSh δ m (m + 10) N) (hk : k < N) (h12 : 0 ≤ x12 ∧ x12 ≤ 2147483647) (h9 : 1 ≤ x9 ∧ x9 ≤ 8) (h10 : 1 ≤ x10 ∧ x10 ≤ 4) (hy : 0 ≤ y ∧ y ≤ 8) : ∃ y1 y2 : Int, (0 ≤ y1 ∧ y1 ≤ 8) ∧ (0 ≤ y2 ∧ y2 ≤ 3) ∧ dm_240_156 L0 xs K x2 m x7 x8 x9 x10 k x12 (m + 10) k y s δ = K x2 m x7 x8 x9 x10 ((k : Int) + 1) s (((δ.w (m + 10) k y).w (m + 11) k y1).w (m + 12) k y2) := by
  have M' : MSh (δ.w (m + 10) k y) m (m + 10) N := M
  obtain ⟨-, b, ⟨c1, c2, c3⟩, -, -, -, h4, h5, h6, -⟩ := M
  obtain ⟨z, hz⟩ : ∃ z, z = (Int32.ofInt x12 >>> (Int32.ofInt 8 &&& 31)).toInt := ⟨_, rfl⟩
  have sh := nb_s (n := 8) h12 (k := 8) rfl (by omega)
  rw [← hz] at sh
  obtain ⟨w, hw⟩ : ∃ w, w = (Int32.ofInt x12 >>> (Int32.ofInt 12 &&& 31)).toInt := ⟨_, rfl⟩
  have sw := nb_s (n := 12) h12 (k := 12) rfl (by omega)
  rw [← hw] at sw
  have w1 := Int.emod_nonneg w (b := x9) (by omega)
  have w2 := Int.emod_lt_of_pos w (b := x9) (by omega)
  have go : ∀ y1 : Int, 0 ≤ y1 ∧ y1 ≤ 8 → ∃ a y2 : Int, (0 ≤ a ∧ a ≤ 8) ∧ (0 ≤ y2 ∧ y2 ≤ 3) ∧ dm_240_210 L0 xs K x2 m x7 x8 x9 x10 k x12 (m + 11) k y1 s (δ.w (m + 10) k y) = K x2 m x7 x8 x9 x10 ((k : Int) + 1) s (((δ.w (m + 10) k y).w (m + 11) k a).w (m + 12) k y2) := fun y1 h1 => by
    obtain ⟨y2, q1, q2⟩ := td_210 (L0 := L0) (xs := xs) (K := K) (x2 := x2) (x7 := x7) (x8 := x8) (x9 := x9) (y := y1) s M' hk h12 h10
    exact ⟨y1, y2, h1, q1, q2⟩
  unfold dm_240_156
  rw [← hz, ← hw, if_pos (AR_A c1), if_pos (AR_I c1 hk), Option.bind_some, Int.toNat_natCast, if_pos (show dO (δ.w (m + 10) k y) m 10 from b), show (δ.w (m + 10) k y).P m 5 = some (m + 11) from h5, Option.bind_some]
  by_cases q : (Int32.ofInt ((Int32.ofInt x7 >>> (Int32.ofInt 20 &&& 31)).toInt) &&& Int32.ofInt 7).toInt = 0
  · rw [if_neg (fun t => t q), show (δ.w (m + 10) k y).P m 4 = some (m + 10) from h4, Option.bind_some, if_pos (show dA (δ.w (m + 10) k y) 0 (m + 10) from AR_A c1), if_pos (show dI (δ.w (m + 10) k y) (m + 10) (k : Int) from AR_I c1 hk), dw_I, if_pos ⟨rfl, rfl⟩]
    exact go y hy
  · rw [if_pos q, if_pos (by omega), if_pos (by omega)]
    by_cases q2 : z % 9 = 0
    · rw [if_neg (fun t => t q2)]
      exact go 8 (by omega)
    · rw [if_pos q2, if_pos (by omega)]
      exact go _ (by omega)
/-- what is drawn so far -/
def DW (δ : dS) (m k : Nat) : Prop := ∀ i, i < k → (0 ≤ δ.I (m + 10) i ∧ δ.I (m + 10) i ≤ 8) ∧ (0 ≤ δ.I (m + 11) i ∧ δ.I (m + 11) i ≤ 8) ∧ (0 ≤ δ.I (m + 12) i ∧ δ.I (m + 12) i ≤ 3)
theorem DW_1 {δ : dS} {m k : Nat} {y y1 y2 : Int} (h : DW δ m k) (hy : 0 ≤ y ∧ y ≤ 8) (h1 : 0 ≤ y1 ∧ y1 ≤ 8) (h2 : 0 ≤ y2 ∧ y2 ≤ 3) : DW (((δ.w (m + 10) k y).w (m + 11) k y1).w (m + 12) k y2) m (k + 1) := fun i hi => by
  rw [dw_I, dw_I, dw_I, dw_I, dw_I, dw_I, dw_I, dw_I, dw_I, if_neg (show ¬ (m + 10 = m + 12 ∧ i = k) by omega), if_neg (show ¬ (m + 10 = m + 11 ∧ i = k) by omega), if_neg (show ¬ (m + 11 = m + 12 ∧ i = k) by omega), if_neg (show ¬ (m + 11 = m + 10 ∧ i = k) by omega), if_neg (show ¬ (m + 12 = m + 11 ∧ i = k) by omega), if_neg (show ¬ (m + 12 = m + 10 ∧ i = k) by omega)]
  by_cases q : i = k
  · rw [if_pos ⟨rfl, q⟩, if_pos ⟨rfl, q⟩, if_pos ⟨rfl, q⟩]
    exact ⟨hy, h1, h2⟩
  · rw [if_neg (fun t => q t.2), if_neg (fun t => q t.2), if_neg (fun t => q t.2)]
    exact h i (by omega)
theorem td_107 {m N : Nat} {x2 v few lands : Int} (hL : L0 ≤ 1000) (hN : N ≤ 96) (h2 : 0 ≤ x2 ∧ x2 ≤ 500) (hv : 0 ≤ v ∧ v ≤ 2147483647) (hf : 1 ≤ few ∧ few ≤ 8) (hl : 1 ≤ lands ∧ lands ≤ 4) (s : gx_S) : ∀ (q k : Nat) (δ : dS), N < q + k → k ≤ N → MSh δ m (m + 10) N → DW δ m k → ∃ (ε : dS) (q' : Nat), dm_240_107 L0 xs q x2 m v N few lands k s δ = dm_240_107 L0 xs (q' + 1) x2 m v N few lands N s ε ∧ WM δ ε (m + 10) (m + 13) ∧ DW ε m N := by
  intro q
  induction q with
  | zero => intro k δ h; omega
  | succ q ih =>
    intro k δ h hk M D
    by_cases e : k = N
    · rw [e] at D ⊢
      exact ⟨δ, q, rfl, WM_rf _ _ _, D⟩
    · obtain ⟨w, hw, aw⟩ := at_ (L0 := L0) (xs := xs) (x1 := x2 + 1 + k) (by omega) hL
      obtain ⟨z, hz⟩ : ∃ z, z = (Int32.ofInt w ^^^ Int32.ofInt v).toInt := ⟨_, rfl⟩
      have rz := nb_x hw hv
      rw [← hz] at rz
      obtain ⟨t, ht⟩ : ∃ t, t = (Int32.ofInt z >>> (Int32.ofInt 4 &&& 31)).toInt := ⟨_, rfl⟩
      have rt := nb_s (n := 4) rz (k := 4) rfl (by omega)
      rw [← ht] at rt
      have t1 := Int.emod_nonneg t (b := few) (by omega)
      have t2 := Int.emod_lt_of_pos t (b := few) (by omega)
      have go : ∀ y : Int, 0 ≤ y ∧ y ≤ 8 → ∃ (ε : dS) (q' : Nat), dm_240_156 L0 xs (dm_240_107 L0 xs q) x2 m v N few lands k z (m + 10) k y s δ = dm_240_107 L0 xs (q' + 1) x2 m v N few lands N s ε ∧ WM δ ε (m + 10) (m + 13) ∧ DW ε m N := fun y hy => by
        obtain ⟨y1, y2, r1, r2, r3⟩ := td_156 (L0 := L0) (xs := xs) (K := dm_240_107 L0 xs q) (x2 := x2) (x7 := v) (x8 := (N : Int)) (x9 := few) (x10 := lands) s M (show k < N by omega) rz hf hl hy
        obtain ⟨ε, q', g1, g2, g3⟩ := ih (k + 1) (((δ.w (m + 10) k y).w (m + 11) k y1).w (m + 12) k y2) (by omega) (by omega) M (DW_1 D hy r1 r2)
        refine ⟨ε, q', ?_, WM_tr (WM_tr (WM_tr (WM_w δ k y (by omega)) (WM_w _ k y1 (by omega))) (WM_w _ k y2 (by omega))) g2, g3⟩
        rw [r3]
        exact g1
      have b := M.2.1
      have h4 := M.2.2.2.2.2.2.1
      rw [dm_240_107, if_pos (by omega), if_pos (by omega), if_neg (by omega), aw, Option.bind_some]
      dsimp only
      rw [← hz, ← ht, if_pos b, h4, Option.bind_some, if_pos rz, if_pos (by omega)]
      by_cases q1 : z % 11 = 0
      · rw [if_neg (fun t => t q1)]
        exact go 8 (by omega)
      · rw [if_pos q1, if_pos (by omega)]
        exact go _ (by omega)
end
