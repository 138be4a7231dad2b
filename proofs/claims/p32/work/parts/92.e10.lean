/-! COUNTS as drawn are told -/
/-- the map at m, apart from its counts of the group g -/
def MG (δ : dS) (m a : Nat) (f : Nat → Int) (R C g : Nat) : Prop := MSh δ m a (R * C) ∧ (δ.I m 0 = R ∧ δ.I m 1 = C ∧ δ.I m 2 = f 3 ∧ δ.I m 3 = f 4) ∧ (∀ k, k < R * C → δ.I a k = f (52 + 96 * 0 + 12 * (k / C) + k % C)) ∧ (∀ k, k < R * C → δ.I (m + 11) k = f (52 + 96 * 1 + 12 * (k / C) + k % C)) ∧ (∀ k, k < R * C → δ.I (m + 12) k = f (52 + 96 * 2 + 12 * (k / C) + k % C)) ∧ (∀ i z, i < 3 → ¬ i = g → z < 9 → δ.I (m + 2 + i) z = f (5 + 9 * i + z)) ∧ (∀ g l, g < 3 → l < 4 → δ.I (m + 6 + g) l = f (32 + 4 * g + l)) ∧ ∀ z, z < 8 → δ.I (m + 9) z = f (44 + z)
theorem MG_of {δ : dS} {m a R C g : Nat} {f : Nat → Int} (M : MM δ m a f R C) : MG δ m a f R C g := ⟨M.1, M.2.1, M.2.2.1, M.2.2.2.1, M.2.2.2.2.1, fun i z hi _ hz => M.2.2.2.2.2.1 i z hi hz, M.2.2.2.2.2.2⟩
theorem fc_in {f : Nat → Int} {g z : Nat} {H : Nat → Int} (hz : z < 9) : fc f g H (5 + 9 * g + z) = H z := by
  unfold fc
  rw [if_pos (by omega), show 5 + 9 * g + z - 5 - 9 * g = z by omega]
theorem fc_out {f : Nat → Int} {g i : Nat} {H : Nat → Int} (h : ¬ (5 + 9 * g ≤ i ∧ i < 14 + 9 * g)) : fc f g H i = f i := if_neg h
theorem MG_MM {δ : dS} {m a R C g : Nat} {f H : Nat → Int} (hg : g < 3) (M : MG δ m a f R C g) (h : ∀ z, z < 9 → δ.I (m + 2 + g) z = H z) : MM δ m a (fc f g H) R C := by
  obtain ⟨M0, ⟨v1, v2, v3, v4⟩, a1, a2, a3, a4, a5, a6⟩ := M
  refine ⟨M0, ⟨v1, v2, by rw [fc_out (by omega)]; exact v3, by rw [fc_out (by omega)]; exact v4⟩, fun k hk => ?_, fun k hk => ?_, fun k hk => ?_, fun i z hi hz => ?_, fun i l hi hl => ?_, fun z hz => ?_⟩
  · rw [fc_out (by omega)]; exact a1 k hk
  · rw [fc_out (by omega)]; exact a2 k hk
  · rw [fc_out (by omega)]; exact a3 k hk
  · by_cases q : i = g
    · rw [q, fc_in hz]; exact h z hz
    · rw [fc_out (by omega)]; exact a4 i z hi q hz
  · rw [fc_out (by omega)]; exact a5 i l hi hl
  · rw [fc_out (by omega)]; exact a6 z hz
theorem MG_DF {B c m a R C g : Nat} {f : Nat → Int} {δ ε : dS} (x : DF B c δ ε) (hm : m + 12 < B) (ha : a < B) (M : MG δ m a f R C g) : MG ε m a f R C g := by
  obtain ⟨M0, ⟨v1, v2, v3, v4⟩, a1, a2, a3, a4, a5, a6⟩ := M
  have p : ∀ k j, k < B → ε.I k j = δ.I k j := fun k j hk => (x.2.1 k hk).1 j
  exact ⟨MSh_DF x hm ha M0, ⟨(p _ _ (by omega)).trans v1, (p _ _ (by omega)).trans v2, (p _ _ (by omega)).trans v3, (p _ _ (by omega)).trans v4⟩, fun k hk => (p _ _ ha).trans (a1 k hk), fun k hk => (p _ _ (by omega)).trans (a2 k hk), fun k hk => (p _ _ (by omega)).trans (a3 k hk), fun i z hi hn hz => (p _ _ (by omega)).trans (a4 i z hi hn hz), fun i z hi hz => (p _ _ (by omega)).trans (a5 i z hi hz), fun z hz => (p _ _ (by omega)).trans (a6 z hz)⟩
theorem MG_w {m a R C g z : Nat} {x : Int} {f : Nat → Int} {δ : dS} (hg : g < 3) (M : MG δ m a f R C g) : MG (δ.w (m + 2 + g) z x) m a f R C g := by
  obtain ⟨M0, ⟨v1, v2, v3, v4⟩, a1, a2, a3, a4, a5, a6⟩ := M
  have ha := M0.1.2.2.2
  have p : ∀ k j, ¬ k = m + 2 + g → (δ.w (m + 2 + g) z x).I k j = δ.I k j := fun k j hk => by rw [dw_I, if_neg (fun t => hk t.1)]
  exact ⟨M0, ⟨(p _ _ (by omega)).trans v1, (p _ _ (by omega)).trans v2, (p _ _ (by omega)).trans v3, (p _ _ (by omega)).trans v4⟩, fun k hk => (p _ _ (by omega)).trans (a1 k hk), fun k hk => (p _ _ (by omega)).trans (a2 k hk), fun k hk => (p _ _ (by omega)).trans (a3 k hk), fun i z hi hn hz => (p _ _ (by omega)).trans (a4 i z hi hn hz), fun i z hi hz => (p _ _ (by omega)).trans (a5 i z hi hz), fun z hz => (p _ _ (by omega)).trans (a6 z hz)⟩
theorem SBv_WM {δ ε : dS} {lo hi b v n : Nat} {bs : Nat → Int} (w : WM δ ε lo hi) (hb : hi ≤ b) (hv : hi ≤ v) (S : SBv δ b v n bs) : SBv ε b v n bs := by
  have hP : ε.P = δ.P := w.1
  have hs : ε.sh = δ.sh := w.2.1
  have hn : ε.n = δ.n := w.2.2.1
  obtain ⟨h1, h2, h3, h4, h5, h6, h7, h8⟩ := S
  exact ⟨⟨h1.1, by rw [hn]; exact h1.2.1, by rw [hs]; exact h1.2.2⟩, by rw [hP]; exact h2, ⟨h3.1, by rw [hn]; exact h3.2.1, by rw [hs]; exact h3.2.2⟩, (w.2.2.2 _ _ (by omega)).trans h4, (w.2.2.2 _ _ (by omega)).trans h5, by rw [hs]; exact h6, by rw [hs]; exact h7, fun i hi' => (w.2.2.2 _ _ (by omega)).trans (h8 i hi')⟩
section
variable {L0 : Nat} {xs : Nat → Int32} {f : Nat → Int} {R C n : Nat} {pf : Nat → Nat → Int}
theorem ct_151 {K : Nat → Int → Int → Nat → Int → Int → gx_S → dS → Option (Int × DS)} {x3 x6 : Int} {m a g b v N z y N0 : Nat} {bs : Nat → Int} {δ : dS} (s : gx_S) (M : MSh δ m a N0) (hg : g < 3) (hz : z < 9) (B : SBv δ b v N bs) (hm : m + 12 < b) (ha : a < b) (hv : b ≤ v) (hN : N ≤ 100) (hy : y ≤ 9999) (e : δ.I (m + 2 + g) z = y) : ∃ (ε : dS) (w : Nat), dm_241_151 L0 xs K m x3 g b x6 z b (zsn z) s δ = K m x3 g b x6 ((z + 1 : Nat) : Int) s ε ∧ SBv ε b w (N + 2 + dgl y) (apn (ap_ (ap_ bs N (zsn z)) (N + 1) 61) (N + 2) y) ∧ DF b 3 δ ε ∧ b ≤ w := by
  have d6 := dgl_r y
  obtain ⟨ε1, w1, a1, a2, a3, a4⟩ := sb_c (m := b) s B (Nat.le_refl _) hv (by omega) (zsn_r hz).1
  obtain ⟨ε2, w2, b1, b2, b3, b4⟩ := sb_c (m := b) (x := 61) s a2 (Nat.le_refl _) a4 (by omega) (by omega)
  have f2 := DF_tr a3 b3
  have e2 : ε2.I (m + 2 + g) z = y := ((f2.2.1 _ (by omega)).1 z).trans e
  obtain ⟨ε3, w3, c1, c2, c3, c4⟩ := sb_i (m := b) (x := (y : Int)) s b2 (Nat.le_refl _) b4 (by rw [dln_n]; omega) (by omega)
  rw [dln_n] at c2
  obtain ⟨-, o, -, ⟨d1, d2⟩, -, -, -, -, -, h7, -⟩ := MSh_DF f2 hm ha M
  refine ⟨ε3, w3, ?_, c2, DF_tr f2 c3, c4⟩
  unfold dm_241_151
  rw [if_pos B.1, a1, Option.bind_some]
  dsimp only
  rw [if_pos a2.1, b1, Option.bind_some]
  dsimp only
  rw [if_pos o, h7, Option.bind_some, if_pos (AR_A d1), if_pos (AR_I d1 hg), Int.toNat_natCast, (d2 g hg).2, Option.bind_some, if_pos (AR_A (d2 g hg).1), if_pos (AR_I (d2 g hg).1 hz), if_pos b2.1, Int.toNat_natCast, e2, c1, Option.bind_some]
  rfl
/-- counts told so far, for the zones below z -/
def CIv (δ : dS) (m a : Nat) (f : Nat → Int) (R C g b v N : Nat) (bs : Nat → Int) (j T : Nat) (h : Nat → Int) (z : Nat) : Prop := MG δ m a f R C g ∧ (m + 12 < b ∧ a < b ∧ b ≤ v) ∧ SBv δ b v N bs ∧ (∀ i, 0 ≤ bs i ∧ bs i < 128) ∧ N ≤ 7 * z ∧ ((N = 0 ∧ ∀ i, h i = 0) ∨ (0 < N ∧ j ≤ z ∧ T < 2 ^ z ∧ RD bs N j T h)) ∧ (∀ i, i < z → δ.I (m + 2 + g) i = h i) ∧ (∀ i, z ≤ i → h i = 0) ∧ ∀ i, 0 ≤ h i ∧ h i ≤ 9999
theorem ap_r {bs : Nat → Int} {n : Nat} {x : Int} (h : ∀ i, 0 ≤ bs i ∧ bs i < 128) (hx : 0 ≤ x ∧ x < 128) (i : Nat) : 0 ≤ ap_ bs n x i ∧ ap_ bs n x i < 128 := by
  unfold ap_
  split
  · exact hx
  · exact h i
theorem apn_r {bs : Nat → Int} {n : Nat} {x : Int} (h : ∀ i, 0 ≤ bs i ∧ bs i < 128) (i : Nat) : 0 ≤ apn bs n x i ∧ apn bs n x i < 128 := by
  unfold apn
  split
  · exact h i
  · exact dby_r x _
theorem ct_96 {K : Nat → Int → Int → Nat → Int → Int → gx_S → dS → Option (Int × DS)} {x3 x6 s2 s3 : Int} {m a g b v N j T z : Nat} {bs h : Nat → Int} {δ : dS} (s : gx_S) (I : CIv δ m a f R C g b v N bs j T h z) (hg : g < 3) (hz : z < 9) (hs : 0 ≤ s2 ∧ s2 ≤ 2147483647) (h3 : 1 ≤ s3 ∧ s3 ≤ 10000) : ∃ (ε : dS) (w N' : Nat) (bs' : Nat → Int) (j' T' y : Nat), dm_241_96 L0 xs K m x3 g b x6 z (m + 2 + g) z s2 s3 s δ = K m x3 g b (x6 + y) ((z + 1 : Nat) : Int) s ε ∧ CIv ε m a f R C g b w N' bs' j' T' (uph h z y) (z + 1) ∧ DF m 4 δ ε := by
  obtain ⟨M, ⟨m1, m2, m3⟩, B, rb, hN, hRD, e1, e0, eh⟩ := I
  have p1 := Int.emod_nonneg s2 (b := s3) (by omega)
  have p2 := Int.emod_lt_of_pos s2 (b := s3) (by omega)
  obtain ⟨y, hy⟩ : ∃ y : Nat, s2 % s3 = y := ⟨(s2 % s3).toNat, by omega⟩
  have y4 : y ≤ 9999 := by omega
  have g4 := dgl_4 y4
  have g1 := dgl_r y
  obtain ⟨Q, hQ⟩ : ∃ Q, Q = δ.w (m + 2 + g) z y := ⟨_, rfl⟩
  have MQ : MG Q m a f R C g := by rw [hQ]; exact MG_w hg M
  have wQ : WM δ Q (m + 2) (m + 5) := by rw [hQ]; exact WM_w δ z y (by omega)
  have BQ := SBv_WM wQ (by omega) (by omega) B
  have eQ : Q.I (m + 2 + g) z = y := by rw [hQ, dw_I, if_pos ⟨rfl, rfl⟩]
  have oQ : ∀ i, ¬ i = z → Q.I (m + 2 + g) i = δ.I (m + 2 + g) i := fun i hi => by rw [hQ, dw_I, if_neg (fun t => hi t.2)]
  have eh' : ∀ i, 0 ≤ uph h z y i ∧ uph h z y i ≤ 9999 := fun i => by
    unfold uph
    split
    · omega
    · exact eh i
  have e0' : ∀ i, z + 1 ≤ i → uph h z y i = 0 := fun i hi => by
    unfold uph
    rw [Int.toNat_natCast, if_neg (by omega)]
    exact e0 i (by omega)
  have p2z : 2 ^ (z + 1) = 2 ^ z + 2 ^ z := by rw [Nat.pow_succ]; omega
  have p1z : 0 < 2 ^ z := Nat.two_pow_pos z
  have go : ∀ (δ2 : dS) (v2 N0 : Nat) (bs0 : Nat → Int), DF b 1 Q δ2 → SBv δ2 b v2 N0 bs0 → b ≤ v2 → (∀ i, 0 ≤ bs0 i ∧ bs0 i < 128) → ((N = 0 ∧ N0 = 0) ∨ (0 < N ∧ N0 = N + 1 ∧ bs0 = ap_ bs N 44)) → ∃ (ε : dS) (w N' : Nat) (bs' : Nat → Int) (j' T' : Nat), dm_241_151 L0 xs K m x3 g b (x6 + y) z b (zsn z) s δ2 = K m x3 g b (x6 + y) ((z + 1 : Nat) : Int) s ε ∧ CIv ε m a f R C g b w N' bs' j' T' (uph h z y) (z + 1) ∧ DF m 4 δ ε := fun δ2 v2 N0 bs0 D2 B2 hv2 rb0 hh => by
    have M2 := MG_DF D2 m1 m2 MQ
    obtain ⟨ε, w, k1, k2, k3, k4⟩ := ct_151 (L0 := L0) (xs := xs) (K := K) (x3 := x3) (x6 := x6 + y) s M2.1 hg hz B2 m1 m2 hv2 (by omega) y4 (((D2.2.1 _ (by omega)).1 z).trans eQ)
    have D3 := DF_tr D2 k3
    have ebs : ∀ i, i < N0 → apn (ap_ (ap_ bs0 N0 (zsn z)) (N0 + 1) 61) (N0 + 2) y i = bs0 i := fun i hi => by rw [apn_o (by omega), ap_o (by omega), ap_o hi]
    have eb0 : apn (ap_ (ap_ bs0 N0 (zsn z)) (N0 + 1) 61) (N0 + 2) y N0 = zsn z := by rw [apn_o (by omega), ap_o (by omega), ap_n]
    have eb1 : apn (ap_ (ap_ bs0 N0 (zsn z)) (N0 + 1) 61) (N0 + 2) y (N0 + 1) = 61 := by rw [apn_o (by omega), ap_n]
    have fin : ∃ j' T' : Nat, j' ≤ z + 1 ∧ T' < 2 ^ (z + 1) ∧ RD (apn (ap_ (ap_ bs0 N0 (zsn z)) (N0 + 1) 61) (N0 + 2) y) (N0 + 2 + dgl y) j' T' (uph h z y) := by
      rcases hh with ⟨n0, n1⟩ | ⟨n0, n1, n2⟩
      · have h00 : h = fun _ => 0 := by
          rcases hRD with ⟨-, q⟩ | ⟨q, -⟩
          · exact funext q
          · omega
        rw [h00]
        rw [n1] at eb0 eb1 ⊢
        rw [show 0 + 2 + dgl y = 2 + dgl y by omega]
        exact ⟨1, 2 ^ z, by omega, by omega, RD_0 hz y4 eb0 eb1 (fun i hi => apn_d i hi)⟩
      · rcases hRD with ⟨q, -⟩ | ⟨-, q2, q3, q4⟩
        · omega
        · rw [n1] at ebs eb0 eb1 ⊢
          rw [show N + 1 + 2 + dgl y = N + 3 + dgl y by omega]
          exact ⟨j + 1, T + 2 ^ z, by omega, by omega, RD_1 q4 hz q3 y4 (fun i hi => by rw [ebs i (by omega), n2, ap_o hi]) (by rw [ebs N (by omega), n2, ap_n]) eb0 eb1 (fun i hi => apn_d i hi)⟩
    obtain ⟨j', T', j1, j2, j3⟩ := fin
    refine ⟨ε, w, _, _, j', T', k1, ⟨MG_DF D3 m1 m2 MQ, ⟨m1, m2, k4⟩, k2, apn_r (ap_r (ap_r rb0 (zsn_r hz).1) (by omega)), by omega, .inr ⟨by omega, j1, j2, j3⟩, fun i hi => ?_, e0', eh'⟩, DF_c (DF_tr (DF_WM (by omega) wQ) (DF_mono (by omega) (Nat.le_refl _) D3)) (by omega)⟩
    rw [(D3.2.1 _ (by omega)).1 i]
    unfold uph
    rw [Int.toNat_natCast]
    by_cases q : i = z
    · rw [if_pos q, q, eQ]
    · rw [if_neg q, oQ i q, e1 i (by omega)]
  have zs : (if ¬ (z : Int) = 8 then ((((Int32.ofInt (97 + (z : Int))).toUInt32 % 65536).toInt32).toInt) else 63) = zsn z := by
    unfold zsn
    by_cases q : z = 8
    · rw [if_pos q, if_neg (by omega)]
    · rw [if_neg q, if_pos (by omega), c16_i (by omega)]
  obtain ⟨MS0, -⟩ := M
  obtain ⟨-, o, -, ⟨d1, d2⟩, -, -, -, -, -, h7, -⟩ := MS0
  obtain ⟨-, oq, -, ⟨q1, q2⟩, -, -, -, -, -, q7, -⟩ := MQ.1
  have st : dm_241_96 L0 xs K m x3 g b x6 z (m + 2 + g) z s2 s3 s δ = if (N : Int) ≤ 0 then (dm_260_r5 b s Q).bind fun q => if ¬ (z : Int) = 8 then dm_241_151 L0 xs K m x3 g b (x6 + y) z q.1 ((((Int32.ofInt (97 + (z : Int))).toUInt32 % 65536).toInt32).toInt) q.2.1 q.2.2 else dm_241_151 L0 xs K m x3 g b (x6 + y) z q.1 63 q.2.1 q.2.2 else (dm_260_r3 b s Q).bind fun q => if ¬ (z : Int) = 8 then dm_241_151 L0 xs K m x3 g b (x6 + y) z q.1 ((((Int32.ofInt (97 + (z : Int))).toUInt32 % 65536).toInt32).toInt) q.2.1 q.2.2 else dm_241_151 L0 xs K m x3 g b (x6 + y) z q.1 63 q.2.1 q.2.2 := by
    have nb : (-2147483648 ≤ (N : Int) ∧ (N : Int) ≤ 2147483647) := by omega
    have zb : (-2147483648 ≤ (z : Int) ∧ (z : Int) ≤ 2147483647) := by omega
    unfold dm_241_96
    rw [if_pos (by omega), if_pos (AR_A (d2 g hg).1), if_pos (AR_I (d2 g hg).1 hz), Option.bind_some, Int.toNat_natCast, hy, ← hQ, if_pos oq, q7, Option.bind_some, if_pos (AR_A q1), if_pos (AR_I q1 hg), Int.toNat_natCast, (q2 g hg).2, Option.bind_some, if_pos (AR_A (q2 g hg).1), if_pos (AR_I (q2 g hg).1 hz), if_pos BQ.1, sb_len s BQ, Option.bind_some]
    dsimp only
    simp only [if_pos nb, if_pos BQ.1, if_pos zb, Int.toNat_natCast, eQ]
  rw [st]
  by_cases q : N = 0
  · obtain ⟨δ2, v2, k1, k2, k3, k4⟩ := sb_e (m := b) s BQ (Nat.le_refl _) m3 (by omega)
    obtain ⟨ε, w, N', bs', j', T', t1, t2, t3⟩ := go δ2 v2 N bs k3 k2 k4 rb (.inl ⟨q, q⟩)
    refine ⟨ε, w, N', bs', j', T', y, ?_, t2, t3⟩
    rw [if_pos (by omega), k1, Option.bind_some]
    dsimp only
    rw [← t1, ← zs]
    split <;> rfl
  · obtain ⟨δ2, v2, k1, k2, k3, k4⟩ := sb_k (m := b) s BQ (Nat.le_refl _) m3 (by omega)
    obtain ⟨ε, w, N', bs', j', T', t1, t2, t3⟩ := go δ2 v2 (N + 1) (ap_ bs N 44) k3 k2 k4 (ap_r rb (by omega)) (.inr ⟨by omega, rfl, rfl⟩)
    refine ⟨ε, w, N', bs', j', T', y, ?_, t2, t3⟩
    rw [if_neg (by omega), k1, Option.bind_some]
    dsimp only
    rw [← t1, ← zs]
    split <;> rfl
theorem ct_15 {x3 : Int} {m a g b : Nat} {tb : Nat → Int} {s : gx_S} (hL : L0 ≤ 1000) (h3 : 0 ≤ x3 ∧ x3 ≤ 500) (hg : g < 3) (Q : QS f R C n pf 0 tb s) : ∀ (q z v N : Nat) (bs : Nat → Int) (j T : Nat) (h : Nat → Int) (δ : dS), 9 < q + z → z ≤ 9 → CIv δ m a f R C g b v N bs j T h z → ∃ (u : gx_S) (ε : dS) (tb' H : Nat → Int), dm_241_15 L0 xs q m x3 g b (sg h z) z s δ = some (1, u, ε) ∧ QS (fc f g H) R C (nn n) (pn n pf f) 0 tb' u ∧ MM ε m a (fc f g H) R C ∧ DF m (4 * (9 - z) + 3) δ ε := by
  intro q
  induction q with
  | zero => intro z v N bs j T h δ hq; omega
  | succ q ih =>
    intro z v N bs j T h δ hq hz I
    rw [dm_241_15, if_pos (by omega)]
    have I' := I
    obtain ⟨M, ⟨m1, m2, m3⟩, B, rb, hN, hRD, e1, e0, eh⟩ := I
    by_cases e : z = 9
    · obtain ⟨ε1, a1, a2, a3⟩ := sb_str s B
      obtain ⟨u1, ε2, tb1, b1, b2, b3, b4⟩ := tx_ (L0 := L0) (xs := xs) (show N ≤ 200 by omega) rb Q a2
      have cw : ctw tb1 N = (-1, h) := by
        rcases hRD with ⟨n0, n1⟩ | ⟨n0, n1, n2, n3⟩
        · rw [n0]
          unfold ctw
          rw [if_pos rfl]
          exact congrArg (Prod.mk (-1)) (funext n1).symm
        · exact RD_e n3 n0 (by omega) b3
      obtain ⟨u2, c1, c2⟩ := qs_counts b2 hg (by rw [cw])
      rw [cw] at c1 c2
      dsimp only at c1 c2
      have bd := sg_bd (f := h) (B := 9999) (n := 9) (fun k _ => eh k)
      have bn : b < δ.n := B.1.2.1
      have D := DF_tr a3 (DF_mono a3.1.1 (Nat.le_refl _) b4)
      refine ⟨u2, ε2, tb1, h, ?_, ?_, MG_MM hg (MG_DF D (by omega) (by omega) M) (fun i hi => ?_), DF_mono (by omega) (by omega) D⟩
      · rw [if_pos (by omega), if_pos B.1, a1, Option.bind_some]
        dsimp only
        rw [b1, Option.bind_some]
        dsimp only
        rw [c1, Option.bind_some]
        dsimp only
        rw [e, if_pos (by omega), if_pos (by omega), if_neg (fun t => t rfl)]
      · exact c2
      · rw [(D.2.1 _ (by omega)).1 i]
        exact e1 i (by omega)
    · obtain ⟨w, hw, aw⟩ := at_ (L0 := L0) (xs := xs) (x1 := x3 + z) (by omega) hL
      obtain ⟨w3, hw3⟩ : ∃ t, t = (Int32.ofInt w >>> (Int32.ofInt 3 &&& 31)).toInt := ⟨_, rfl⟩
      have rw3 := nb_s (n := 3) hw (k := 3) rfl (by omega)
      rw [← hw3] at rw3
      obtain ⟨Z, hZ⟩ : ∃ Z, Z = δ.w (m + 2 + g) z 0 := ⟨_, rfl⟩
      have wZ : WM δ Z (m + 2) (m + 5) := by rw [hZ]; exact WM_w δ z 0 (by omega)
      have MZ : MG Z m a f R C g := by rw [hZ]; exact MG_w hg M
      have oZ : ∀ i, ¬ i = z → Z.I (m + 2 + g) i = δ.I (m + 2 + g) i := fun i hi => by rw [hZ, dw_I, if_neg (fun t => hi t.2)]
      have zZ : Z.I (m + 2 + g) z = 0 := by rw [hZ, dw_I, if_pos ⟨rfl, rfl⟩]
      have IZ : CIv Z m a f R C g b v N bs j T h z := ⟨MZ, ⟨m1, m2, m3⟩, SBv_WM wZ (by omega) (by omega) B, rb, hN, hRD, fun i hi => (oZ i (by omega)).trans (e1 i hi), e0, eh⟩
      obtain ⟨-, o, -, ⟨d1, d2⟩, -, -, -, -, -, h7, -⟩ := M.1
      obtain ⟨-, oz, -, ⟨z1, z2⟩, -, -, -, -, -, z7, -⟩ := MZ.1
      rw [if_neg (by omega), aw, Option.bind_some]
      dsimp only
      rw [← hw3, if_pos o, h7, Option.bind_some, if_pos (AR_A d1), if_pos (AR_I d1 hg), Int.toNat_natCast, (d2 g hg).2, Option.bind_some, if_pos (AR_A (d2 g hg).1), if_pos (AR_I (d2 g hg).1 (by omega)), Int.toNat_natCast, Option.bind_some, ← hZ, if_pos (by omega), if_pos (by omega)]
      by_cases q0 : w % 4 = 0
      · rw [if_neg (fun t => t q0)]
        have p2z : 2 ^ (z + 1) = 2 ^ z + 2 ^ z := by rw [Nat.pow_succ]; omega
        obtain ⟨u, ε, tb', H, g1, g2, g3, g4⟩ := ih (z + 1) v N bs j T h Z (by omega) (by omega) ⟨MZ, ⟨m1, m2, m3⟩, SBv_WM wZ (by omega) (by omega) B, rb, by omega, by
          rcases hRD with t | ⟨t0, t1, t2, t3⟩
          · exact .inl t
          · exact .inr ⟨t0, by omega, by omega, t3⟩, fun i hi => by
          by_cases q1 : i = z
          · rw [q1, zZ, e0 z (Nat.le_refl _)]
          · exact (oZ i q1).trans (e1 i (by omega)), fun i hi => e0 i (by omega), eh⟩
        refine ⟨u, ε, tb', H, ?_, g2, g3, DF_c (DF_tr (DF_WM (by omega) wZ) g4) (by omega)⟩
        rw [← g1, sg, e0 z (Nat.le_refl _), Int.add_zero]
        rfl
      · have go : ∀ s3 : Int, 1 ≤ s3 ∧ s3 ≤ 10000 → ∃ (u : gx_S) (ε : dS) (tb' H : Nat → Int), dm_241_96 L0 xs (dm_241_15 L0 xs q) m x3 g b (sg h z) z (m + 2 + g) z w3 s3 s Z = some (1, u, ε) ∧ QS (fc f g H) R C (nn n) (pn n pf f) 0 tb' u ∧ MM ε m a (fc f g H) R C ∧ DF m (4 * (9 - z) + 3) δ ε := fun s3 h3 => by
          obtain ⟨ε1, w1, N', bs', j', T', y, t1, t2, t3⟩ := ct_96 (L0 := L0) (xs := xs) (K := dm_241_15 L0 xs q) (x3 := x3) (x6 := sg h z) s IZ hg (by omega) (show 0 ≤ w3 ∧ w3 ≤ 2147483647 by omega) h3
          obtain ⟨u, ε, tb', H, g1, g2, g3, g4⟩ := ih (z + 1) w1 N' bs' j' T' _ ε1 (by omega) (by omega) t2
          refine ⟨u, ε, tb', H, ?_, g2, g3, DF_c (DF_tr (DF_WM (by omega) wZ) (DF_tr t3 g4)) (by omega)⟩
          rw [t1, ← g1, sg, sg_eq (f := uph h z y) (g := h) (n := z) (fun k hk => by
            unfold uph
            rw [Int.toNat_natCast, if_neg (by omega)])]
          unfold uph
          rw [Int.toNat_natCast, if_pos rfl]
        rw [if_pos q0, if_pos oz, z7, Option.bind_some, if_pos (AR_A z1), if_pos (AR_I z1 hg), (z2 g hg).2, Option.bind_some]
        by_cases q1 : w % 4 = 1
        · rw [if_neg (fun t => t q1)]
          exact go 10 (by omega)
        · rw [if_pos q1]
          by_cases q2 : w % 4 = 2
          · rw [if_neg (fun t => t q2)]
            exact go 200 (by omega)
          · rw [if_pos q2]
            exact go 10000 (by omega)
/-- counts of a group as drawn are told -/
theorem counts_ {x3 : Int} {m a g : Nat} {tb : Nat → Int} {s : gx_S} {δ : dS} (hL : L0 ≤ 1000) (h3 : 0 ≤ x3 ∧ x3 ≤ 500) (hg : g < 3) (Q : QS f R C n pf 0 tb s) (M : MM δ m a f R C) : ∃ (u : gx_S) (ε : dS) (tb' H : Nat → Int), dm_241 L0 xs m x3 g s δ = some (1, u, ε) ∧ QS (fc f g H) R C (nn n) (pn n pf f) 0 tb' u ∧ MM ε m a (fc f g H) R C ∧ DF m 41 δ ε := by
  obtain ⟨⟨m0, m1, m2, m3⟩, -⟩ := M.1
  obtain ⟨ε1, a1, a2, a3, a4⟩ := sb_new s (show 215 ≤ δ.n by omega)
  obtain ⟨u, ε, tb', H, g1, g2, g3, g4⟩ := ct_15 (L0 := L0) (xs := xs) (x3 := x3) (m := m) (a := a) (b := δ.n) hL h3 hg Q 100000 0 (δ.n + 1) 0 (fun _ => 0) 0 0 (fun _ => 0) ε1 (by omega) (by omega) ⟨MG_of (MM_DF a3 m1 m2 M), ⟨m1, m2, by omega⟩, a2, fun _ => (show 0 ≤ (0 : Int) ∧ (0 : Int) < 128 by omega), by omega, .inl ⟨rfl, fun _ => rfl⟩, fun i hi => by omega, fun _ _ => rfl, fun _ => (show 0 ≤ (0 : Int) ∧ (0 : Int) ≤ 9999 by omega)⟩
  refine ⟨u, ε, tb', H, ?_, g2, g3, DF_c (DF_tr (DF_mono (by omega) (Nat.le_refl _) a3) g4) (by omega)⟩
  unfold dm_241
  rw [Option.bind_some, if_pos a4, a1, Option.bind_some]
  exact g1
end
