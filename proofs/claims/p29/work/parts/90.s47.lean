/-! BOTH TABLES: the class's round and the reference's fills give the same -/
theorem gc1_z {s : gx_S} {t r c : Nat} (hc : c < 9) (h : s.1 (t + 7) (9 * r + c) ≤ 0) : (gc1 s t r).1 (t + 8) (9 * r + c) = s.1 (t + 8) (9 * r + c) := by
  unfold gc1
  by_cases z : bst (vc s t r) 9 = -1
  · rw [if_pos z]
  · have br := bst_r (vc s t r) 9
    have p := bst_pos (v := vc s t r) (m := 9) (by omega)
    rw [if_neg z, gw1_1]
    by_cases e : (bst (vc s t r) 9).toNat = c
    · rw [e] at p
      unfold vc at p
      split at p <;> omega
    · rw [if_neg (fun x => e (by omega))]
theorem gcn_z {t r c : Nat} (hc : c < 9) : ∀ (n : Nat) (s : gx_S), s.1 (t + 7) (9 * r + c) ≤ 0 → (gcn s t r n).1 (t + 8) (9 * r + c) = s.1 (t + 8) (9 * r + c)
  | 0, _, _ => rfl
  | n + 1, s, h => by
    show (gcn (gc1 s t r) t r n).1 (t + 8) (9 * r + c) = _
    rw [gcn_z hc n (gc1 s t r) (by rw [gc1_o s t r (t + 7) _ (by omega)]; exact h), gc1_z hc h]
theorem gvn_sum {r m : Nat} (m9 : m ≤ 9) : ∀ (n : Nat) (s : gx_S), (n : Int) ≤ ps s r m → sg (fun c => (gvn s r m n).2 224 (9 * r + c)) m = sg (fun c => s.2 224 (9 * r + c)) m + n
  | 0, s, _ => (Int.add_zero _).symm
  | n + 1, s, h => by
    have b := bs_of_ps (s := s) (r := r) (m := m) (by omega)
    have br := bs_r s r m
    have a := gvn_sum (r := r) m9 n (gv1 s r m) (by rw [ps_gv1 b]; omega)
    show sg (fun c => (gvn (gv1 s r m) r m n).2 224 (9 * r + c)) m = _
    rw [a, sg_updn (f := fun c => s.2 224 (9 * r + c)) (g := fun c => (gv1 s r m).2 224 (9 * r + c)) (i := (bs s r m).toNat) (x := 1) (by omega) (by
      show (gv1 s r m).2 224 (9 * r + (bs s r m).toNat) = s.2 224 (9 * r + (bs s r m).toNat) + 1
      unfold gv1
      rw [gw2_2, if_neg (by omega), gw2_2, if_pos ⟨rfl, rfl⟩]) (fun d h1 h2 => by
      show (gv1 s r m).2 224 (9 * r + d) = s.2 224 (9 * r + d)
      unfold gv1
      rw [gw2_2, if_neg (by omega), gw2_2, if_neg (by omega)])]
    omega
theorem RA_rw {v s : gx_S} {t m x : Nat} (m9 : m ≤ 9) (A : RA v s t m x) : rw_ v (ct s x m) t x m := by
  obtain ⟨z1, z2⟩ := A
  refine ⟨fun c hc => ?_, fun c hc => ?_, fun c h1 h2 => ?_⟩
  · rw [ct_4 m9, if_pos (by omega)]
    exact (z1 c hc).2.1
  · rw [ct_5 m9, if_pos (by omega)]
    obtain ⟨y1, y2, y3⟩ := z1 c hc
    unfold vc
    rw [if_pos (y2.trans y1.symm)]
    exact y3
  · unfold vc
    rw [z2 c h1 h2]
    split <;> rfl
/-- the class's table, filled, beside the reference's -/
def AL (c r : gx_S) (t R m : Nat) : Prop := r.1 215 17 = R ∧ r.1 215 18 = m ∧ R ≤ 8 ∧ m ≤ 9 ∧ (∀ x, x < R → r.2 221 x = c.1 (t + 1) x) ∧ (∀ x y, x < R → y < m → r.1 222 (9 * x + y) = am c t x y) ∧ ∀ x y, x < 8 → y < 9 → ¬ (x < R ∧ y < m) → am c t x y = 0
/-- what the class's round leaves alone -/
def ro7 (t : Nat) (c u : gx_S) : Prop := u.2 = c.2 ∧ ∀ k i, ¬ (7 ≤ k ∧ k ≤ 13) → ¬ (k = 6 ∧ i = 7) → ¬ ((k = t + 2 ∨ k = t + 3) ∧ i < 8) → ¬ ((k = t + 4 ∨ k = t + 6 ∨ k = t + 7 ∨ k = t + 8) ∧ i < 72) → u.1 k i = c.1 k i
theorem tab_eq {c r : gx_S} {t R m : Nat} {md : Int} (ht : fx_oc t 7 = true) (h : tf c t) (h8 : md = 1 → sg (aw c t) 8 ≤ 864) (A : AL c r t R m) (S : SC r) (e3 : r.1 216 3 = md) (hmd : md = 0 ∨ md = 1) : ∃ u w : gx_S, gm_41 t md c = some u ∧ gm_173 r = some w ∧ (∀ x y, x < R → y < m → u.1 (t + 8) (9 * x + y) = w.2 224 (9 * x + y)) ∧ (∀ x y, x < 8 → y < 9 → ¬ (x < R ∧ y < m) → u.1 (t + 8) (9 * x + y) = 0) ∧ ro7 t c u ∧ (∀ x, x < 8 → u.1 (t + 2) x = aw c t x ∧ ∀ y, y < 9 → u.1 (t + 4) (9 * x + y) = am c t x y ∧ u.1 (t + 6) (9 * x + y) = af c t x y ∧ u.1 (t + 7) (9 * x + y) = ar c t x y ∧ (af c t x y ≤ u.1 (t + 8) (9 * x + y) ∧ u.1 (t + 8) (9 * x + y) ≤ af c t x y + 9)) ∧ rc r w ∧ SC w ∧ (∀ x, x < R → w.1 223 x = aw c t x) ∧ (∀ x, x < 8 → sg (fun y => u.1 (t + 8) (9 * x + y)) 9 = if aw c t x ≤ 0 then 0 else c.1 (t + 1) x) ∧ ∀ x, x < 8 → u.1 (t + 3) x = pl c t x := by
  have t14 := oc7_14 ht
  obtain ⟨A1, A2, R8, m9, A5, A6, A7⟩ := A
  obtain ⟨v, v1, v2, v3, v4, v5, v6⟩ := sp_70 ht h
  obtain ⟨a, a1, a2, a3, a4, a5⟩ := sl_173_2 R8 m9 100000 0 r (by omega) (by omega) A1 A2 (by rcases hmd with e | e <;> omega)
  have a1 : gm_173_2 100000 0 r = _ := a1
  have aww : ∀ x, x < R → a.1 223 x = aw c t x := fun x hx => by
    rw [a4 x (by omega) hx]
    unfold aw
    rw [sg_cut0 m9 fun k h1 h2 => A7 x k (by omega) h2 (by omega)]
    exact sg_eq fun y hy => A6 x y hx hy
  have aw0 : ∀ x, R ≤ x → x < 8 → aw c t x = 0 := fun x h1 h2 => sg_0 fun y hy => A7 x y h2 hy (by omega)
  have P : PR a R m := by
    refine ⟨by rw [a3 215 17 (by decide)]; exact A1, by rw [a3 215 18 (by decide)]; exact A2, R8, m9, fun x hx => ⟨?_, fun y hy => ?_, ?_⟩⟩
    · rw [a2, A5 x hx]
      have := (h.1 x (by omega)).1
      omega
    · rw [a3 222 _ (by decide), A6 x y hx hy]
      have b := aw_r h (show x < 8 by omega)
      have q := sg_at (f := fun y => am c t x y) (n := 9) (fun k hk => b.2.2 k hk) y (by omega)
      have e : sg (fun y => am c t x y) 9 = aw c t x := rfl
      exact ⟨b.2.2 y (by omega), by omega⟩
    · rw [a4 x (by omega) hx]
      exact sg_eq fun y _ => (a3 222 _ (by decide)).symm
  have fq : ∀ x y, x < R → y < m → af c t x y = flq a (9 * x + y) ∧ ar c t x y = rsq a (9 * x + y) := fun x y hx hy => by
    have b := (aw_r h (show x < 8 by omega)).1
    unfold af ar flq rsq
    rw [show (9 * x + y) / 9 = x by omega, aww x hx, a2, A5 x hx, a3 222 _ (by decide), A6 x y hx hy]
    by_cases z : aw c t x ≤ 0
    · rw [if_pos z, if_pos z, if_pos (by omega), if_pos (by omega)]
      exact ⟨rfl, rfl⟩
    · rw [if_neg z, if_neg z, if_neg (by omega), if_neg (by omega)]
      exact ⟨rfl, rfl⟩
  have f0 : ∀ x y, x < 8 → y < 9 → ¬ (x < R ∧ y < m) → af c t x y = 0 ∧ ar c t x y = 0 := fun x y hx hy hn => by
    unfold af ar
    rw [A7 x y hx hy hn, Int.mul_zero]
    by_cases z : aw c t x ≤ 0
    · rw [if_pos z, if_pos z]
      exact ⟨rfl, rfl⟩
    · rw [if_neg z, if_neg z]
      exact ⟨Int.zero_ediv _, Int.zero_emod _⟩
  have lq : ∀ x, x < R → lo v t x = loq a m x := fun x hx => by
    have b := (aw_r h (show x < 8 by omega)).1
    rw [(v4 x (by omega)).2.1]
    unfold loq
    rw [aww x hx, a2, A5 x hx, sg_cut0 m9 fun k h1 h2 => (f0 x k (by omega) h2 (by omega)).1, sg_eq (g := fun y => flq a (9 * x + y)) fun y hy => (fq x y hx hy).1]
    by_cases z : aw c t x ≤ 0
    · rw [if_pos z, if_pos (by omega)]
    · rw [if_neg z, if_neg (by omega)]
  have l0 : ∀ x, R ≤ x → x < 8 → lo v t x = 0 := fun x h1 h2 => by
    rw [(v4 x h2).2.1, aw0 x h1 h2]
    rfl
  have Sa : SC a := ⟨fun j hj => by rw [a2, a3 232 j (by decide), a3 233 j (by decide), a3 234 j (by decide)]; exact S.1 j hj, fun d hd => by rw [a2, a3 235 d (by decide)]; exact S.2.1 d hd, fun k hk => by rw [a2]; exact S.2.2 k hk⟩
  have a16 : a.1 216 3 = md := by rw [a3 216 3 (by decide)]; exact e3
  have ra : ∀ w : gx_S, rc a w → rc r w := fun w W => ⟨fun k i h1 h2 h3 h4 h5 => (W.1 k i h1 h2 h3 h4 h5).trans (a3 k i h1), fun k i h1 h2 => (W.2 k i h1 h2).trans (by rw [a2])⟩
  have vv : ∀ (u : gx_S) (x : Nat), x < 8 → (∀ k i, k = t + 2 ∨ k = t + 4 ∨ k = t + 6 ∨ k = t + 7 → u.1 k i = v.1 k i) → (∀ y, y < 9 → v.1 (t + 8) (9 * x + y) ≤ u.1 (t + 8) (9 * x + y) ∧ u.1 (t + 8) (9 * x + y) ≤ v.1 (t + 8) (9 * x + y) + 9) → u.1 (t + 2) x = aw c t x ∧ ∀ y, y < 9 → u.1 (t + 4) (9 * x + y) = am c t x y ∧ u.1 (t + 6) (9 * x + y) = af c t x y ∧ u.1 (t + 7) (9 * x + y) = ar c t x y ∧ (af c t x y ≤ u.1 (t + 8) (9 * x + y) ∧ u.1 (t + 8) (9 * x + y) ≤ af c t x y + 9) := fun u x hx e b => by
    obtain ⟨w1, w2, w3⟩ := v4 x hx
    refine ⟨by rw [e _ _ (by omega)]; exact w1, fun y hy => ?_⟩
    obtain ⟨x1, x2, x3, x4⟩ := w3 y hy
    have := b y hy
    rw [x4] at this
    exact ⟨by rw [e _ _ (by omega)]; exact x1, by rw [e _ _ (by omega)]; exact x2, by rw [e _ _ (by omega)]; exact x3, this⟩
  have unf : gm_173 r = gm_173_2 100000 0 r := rfl
  rcases hmd with q | q
  · obtain ⟨v', u, w1, u1, u2, u3, u4, u5⟩ := sp_41_0 ht h
    have ev : v' = v := Option.some.inj (w1.symm.trans v1)
    rw [ev] at u2 u3 u4 u5
    have RAx : ∀ x, x < R → RA v a t m x := fun x hx => ⟨fun y hy => by
      obtain ⟨y1, y2, y3, y4⟩ := (v4 x (by omega)).2.2 y (by omega)
      obtain ⟨z1, z2⟩ := fq x y hx hy
      exact ⟨y2.trans z1, y4.trans z1, y3.trans z2⟩, fun y h1 h2 => ((v4 x (by omega)).2.2 y h2).2.2.1.trans (f0 x y (by omega) h2 (by omega)).2⟩
    obtain ⟨w, x1, x2, x3, x4, x5, x6⟩ := sl_173_39 (v := v) (t := t) 100000 0 a (by omega) (by omega) P RAx
    have x1 : gm_173_39 100000 0 a = _ := x1
    have gB : ∀ (n : Nat) (s : gx_S) (x j : Nat), s.1 (t + 8) j ≤ (gcn s t x n).1 (t + 8) j ∧ (gcn s t x n).1 (t + 8) j ≤ s.1 (t + 8) j + n := by
      intro n
      induction n with
      | zero =>
        intro s x j
        show s.1 (t + 8) j ≤ s.1 (t + 8) j ∧ s.1 (t + 8) j ≤ s.1 (t + 8) j + ((0 : Nat) : Int)
        omega
      | succ n ih =>
        intro s x j
        have i1 := ih (gc1 s t x) x j
        have i2 := gc1_8 s t x j
        show s.1 (t + 8) j ≤ (gcn (gc1 s t x) t x n).1 (t + 8) j ∧ (gcn (gc1 s t x) t x n).1 (t + 8) j ≤ s.1 (t + 8) j + ((n + 1 : Nat) : Int)
        omega
    have out0 : ∀ x y, x < 8 → y < 9 → ¬ (x < R ∧ y < m) → u.1 (t + 8) (9 * x + y) = 0 := fun x y hx hy hn => by
      rw [u3 x y hx hy]
      obtain ⟨w1, w2, w3⟩ := v4 x hx
      obtain ⟨y1, y2, y3, y4⟩ := w3 y hy
      obtain ⟨z1, z2⟩ := f0 x y hx hy hn
      rw [gcn_z hy _ v (by rw [y3, z2]; omega), y4, z1]
    refine ⟨u, w, by rw [q]; exact u1, ?_, fun x y hx hy => ?_, out0, ⟨u2.trans v2, fun k i h1 h2 h3 h4 => ?_⟩, fun x hx => vv u x hx (fun k i hk => u4 k i (by omega)) fun y hy => ?_, ra w ⟨fun k i _ _ _ _ _ => by rw [x2], fun k i h1 h2 => x3 k i (by omega) (by omega)⟩, ⟨fun j hj => ?_, fun d hd => ?_, fun k hk => ?_⟩, fun x hx => ?_, fun x hx => ?_, fun x hx => (u4 _ _ (by omega)).trans (v6 x hx)⟩
    · rw [unf, a1, a16, if_pos (by omega), x1]
    · rw [u3 x y (by omega) (by omega), x4 x y (by omega) hx hy, lq x hx]
    · by_cases e : k = t + 8
      · rw [e, u5 i (by omega), v5 (t + 8) i (by omega) (by omega)]
      · rw [u4 k i e, v5 k i h3 (by omega)]
    · rw [u3 x y hx hy]
      have l := lo_r v3 hx
      have g := gB (lo v t x).toNat v x (9 * x + y)
      omega
    · have s1 := Sa.1 j hj
      rw [x2]
      exact ⟨s1.1, s1.2.1, s1.2.2.1, x6 j s1.2.2.2⟩
    · rw [x2, x3 229 d (by decide) (by decide), x3 230 d (by decide) (by decide), x3 227 d (by decide) (by decide), x3 228 d (by decide) (by decide)]
      exact Sa.2.1 d hd
    · rw [x3 231 k (by decide) (by decide)]
      exact Sa.2.2 k hk
    · rw [x2]
      exact aww x hx
    · by_cases z : x < R
      · obtain ⟨l1, l2, l3⟩ := lo_ps P z
        have rwn := rw_n m9 (loq a m x).toNat v (ct a x m) (RA_rw m9 (RAx x z)) l2
        have e1 : sg (fun y => u.1 (t + 8) (9 * x + y)) 9 = sg (fun y => (gvn (ct a x m) x m (loq a m x).toNat).2 224 (9 * x + y)) m := by
          rw [sg_cut0 m9 fun k h1 h2 => out0 x k hx h2 (by omega)]
          exact sg_eq fun y hy => by rw [u3 x y hx (by omega), lq x z]; exact rwn.1 y hy
        have e2 : sg (fun y => (ct a x m).2 224 (9 * x + y)) m = sg (fun y => flq a (9 * x + y)) m := sg_eq fun y hy => by rw [ct_4 m9, if_pos (by omega)]
        have b := (aw_r h hx).1
        rw [e1, gvn_sum m9 _ _ l2, e2, ← A5 x z, ← a2, ← aww x z]
        have e3 : ((loq a m x).toNat : Int) = loq a m x := by omega
        rw [e3]
        have w0 := PR_w P z
        by_cases z0 : a.1 223 x = 0
        · rw [if_pos (by omega), show loq a m x = 0 from if_pos z0, sg_0 fun y hy => by
            unfold flq
            rw [show (9 * x + y) / 9 = x by omega, if_pos z0]]
          rfl
        · rw [if_neg (by omega), show loq a m x = _ from if_neg z0]
          omega
      · rw [sg_0 fun y hy => out0 x y hx hy (by omega), aw0 x (by omega) hx, if_pos (Int.le_refl 0)]
  · obtain ⟨v', u, w1, u1, u2, u3, u4, u5⟩ := sp_41_1 ht h (h8 q)
    have ev : v' = v := Option.some.inj (w1.symm.trans v1)
    rw [ev] at u2 u3 u4 u5
    have vt : ∀ k, k < 8 → v.1 (t + 2) k = aw c t k := fun k hk => (v4 k hk).1
    have hs : sg (v.1 (t + 2)) 8 ≤ 864 := by
      rw [sg_eq (g := aw c t) fun k hk => vt k hk]
      exact h8 q
    have hK0 := cm_pos (v.1 (t + 2)) 8
    have hKB := cm_B (v := v.1 (t + 2)) (fun k hk => by rw [vt k hk]; exact (aw_r h hk).1) hs (Nat.le_refl 8)
    have hdv : ∀ x, x < R → a.1 223 x ≤ 1000000 ∧ (0 < a.1 223 x → (a.1 223 x).toNat ∣ cm (v.1 (t + 2)) 8) := fun x hx => by
      rw [aww x hx]
      refine ⟨(aw_r h (by omega)).2.1, fun p => ?_⟩
      rw [← vt x (by omega)] at p ⊢
      exact cm_dvd (by omega) p
    have eS : ∀ y, y < m → ro v t y (cm (v.1 (t + 2)) 8 : Nat) = Sq a R (cm (v.1 (t + 2)) 8 : Nat) y := fun y hy => by
      unfold ro Sq
      rw [sg_cut0 R8 fun k h1 h2 => by rw [vt k h2, aw0 k h1 h2]; rfl]
      refine sg_eq fun x hx => ?_
      obtain ⟨y1, y2, y3, y4⟩ := (v4 x (by omega)).2.2 y (by omega)
      show (if v.1 (t + 2) x ≤ 0 then 0 else v.1 (t + 7) (9 * x + y) * _) = _
      rw [y3, (fq x y hx hy).2, vt x (by omega), ← aww x hx]
      have b := PR_w P hx
      have g := rsq_B P hx hy
      by_cases z : a.1 223 x ≤ 0
      · rw [if_pos z, if_pos (by omega)]
      · rw [if_neg z]
        by_cases z2 : rsq a (9 * x + y) ≤ 0
        · rw [if_pos z2, show rsq a (9 * x + y) = 0 by omega, Int.zero_mul]
        · rw [if_neg z2]
    have e0 : ∀ y, m ≤ y → y < 9 → ro v t y (cm (v.1 (t + 2)) 8 : Nat) = 0 := fun y h1 h2 => sg_0 fun x hx => by
      obtain ⟨y1, y2, y3, y4⟩ := (v4 x hx).2.2 y h2
      rw [y3, (f0 x y hx h2 (by omega)).2, Int.zero_mul]
      split <;> rfl
    have eL : ∀ y, y < 9 → ls v t y = Lq a R m (cm (v.1 (t + 2)) 8 : Nat) y ∧ ms v t y = Oq a R m (cm (v.1 (t + 2)) 8 : Nat) y := fun y hy => by
      unfold ms ls Lq Oq
      by_cases z : y < m
      · rw [if_pos z, if_pos z, eS y z]
        exact ⟨rfl, rfl⟩
      · rw [if_neg z, if_neg z, e0 y (by omega) hy, Int.zero_ediv, Int.zero_emod]
        exact ⟨rfl, rfl⟩
    have eF : ∀ i, i < 72 → fr v t i = Fq a R m i := fun i hi => by
      have e : 9 * (i / 9) + i % 9 = i := by omega
      obtain ⟨y1, y2, y3, y4⟩ := (v4 (i / 9) (by omega)).2.2 (i % 9) (by omega)
      rw [e] at y3
      unfold fr Fq
      rw [y3]
      by_cases z : ins R m i
      · have z2 := (fq (i / 9) (i % 9) z.1 z.2).2
        rw [e] at z2
        rw [z2]
        by_cases z3 : rsq a i ≤ 0
        · rw [if_pos z3, if_neg (by omega)]
        · rw [if_neg z3, if_pos ⟨z, by omega⟩]
      · rw [(f0 (i / 9) (i % 9) (by omega) (by omega) z).2, if_pos (Int.le_refl 0), if_neg (fun x => z x.1)]
    have eW : ∀ x, x < 8 → lo v t x = Wq a R m x := fun x hx => by
      unfold Wq
      by_cases z : x < R
      · rw [if_pos z, lq x z]
      · rw [if_neg z, l0 x (by omega) hx]
    have LGa := LG_c u2 (fun y hy => (eL y hy).1.symm) (fun y hy => (eL y hy).2.symm) (fun i hi => (eF i hi).symm) (fun x hx => (eW x hx).symm) (fun i _ => (rfl : u.1 8 i = u.1 8 i))
    obtain ⟨w, x1, x2, x3, x4, x5, x6⟩ := sp_172 P Sa ⟨hK0, hKB⟩ hdv (fun x hx => by rw [← lq x hx]; exact lo_r v3 (by omega)) ⟨_, LGa.1⟩
    have un := LG_un LGa x4
    have u8 : ∀ x y, x < 8 → y < 9 → u.1 (t + 8) (9 * x + y) = af c t x y + u.1 8 (9 * x + y) := fun x y hx hy => by
      rw [u4 _ (by omega), ((v4 x hx).2.2 y hy).2.1]
    have u01 : ∀ i, i < 72 → 0 ≤ u.1 8 i ∧ u.1 8 i ≤ 1 := fun i hi => by
      have := (u2.1.1 i hi).1
      omega
    refine ⟨u, w, by rw [q]; exact u1, ?_, fun x y hx hy => ?_, fun x y hx hy hn => ?_, ⟨u3.1.trans v2, fun k i h1 h2 h3 h4 => ?_⟩, fun x hx => vv u x hx (fun k i hk => u3.2 k i (by omega) (by omega) (by omega)) fun y hy => ?_, ra w x2, x3, fun x hx => by rw [x6]; exact aww x hx, fun x hx => ?_, fun x hx => (u3.2 _ _ (by omega) (by omega) (by omega)).trans (v6 x hx)⟩
    · rw [unf, a1, a16, if_neg (by omega), x1]
      rfl
    · have z := un (9 * x + y) (by omega)
      have z' : u.1 8 (9 * x + y) = if ins R m (9 * x + y) then w.2 224 (9 * x + y) - flq a (9 * x + y) else 0 := z
      rw [if_pos (ins_i hx hy m9)] at z'
      rw [u8 x y (by omega) (by omega), (fq x y hx hy).1, z']
      omega
    · have z := un (9 * x + y) (by omega)
      have z' : u.1 8 (9 * x + y) = if ins R m (9 * x + y) then w.2 224 (9 * x + y) - flq a (9 * x + y) else 0 := z
      rw [if_neg (by unfold ins; omega)] at z'
      rw [u8 x y hx hy, z', (f0 x y hx hy hn).1]
      rfl
    · by_cases e : k = t + 8
      · rw [e, u5 i (by omega), v5 (t + 8) i (by omega) (by omega)]
      · rw [u3.2 k i (by omega) h2 e, v5 k i h3 (by omega)]
    · have b := u01 (9 * x + y) (by omega)
      rw [u8 x y hx hy, ((v4 x hx).2.2 y hy).2.2.2]
      omega
    · have e1 := sg_add (fun y => af c t x y) (fun y => u.1 8 (9 * x + y)) 9
      rw [sg_eq (f := fun y => u.1 (t + 8) (9 * x + y)) (g := fun y => af c t x y + u.1 8 (9 * x + y)) fun y hy => u8 x y hx hy, e1, u2.1.2.1 x hx, (v4 x hx).2.1]
      by_cases z : aw c t x ≤ 0
      · rw [if_pos z, if_pos z, sg_0 (f := fun y => af c t x y) fun y _ => if_pos z]
        rfl
      · rw [if_neg z, if_neg z]
        omega
