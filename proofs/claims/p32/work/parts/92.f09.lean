/-! ALL THAT IS TOLD, as one text: the same for the same map -/
def rbt (bs : Nat → Int) : Prop := ∀ i, 0 ≤ bs i ∧ bs i < 128
/-- from P with N signs bs one comes to Q with N' signs bs', whatever the state that holds the map -/
def ATo (f : Nat → Int) (R C : Nat) (P Q : Nat → gx_S → dS → Option (Nat × DS)) (N : Nat) (bs : Nat → Int) (N' : Nat) (bs' : Nat → Int) (c : Nat) : Prop := ∀ (n : Nat) (pf : Nat → Nat → Int) (L : Nat) (tb : Nat → Int) (s : gx_S) (δ : dS) (b v : Nat), QS f R C n pf L tb s → SBv δ b v N bs → b ≤ v → ∃ (u : gx_S) (ε : dS) (w : Nat), P b s δ = Q b u ε ∧ QS f R C n pf L tb u ∧ SBv ε b w N' bs' ∧ DF b c δ ε ∧ b ≤ w
theorem ATo_tr {f : Nat → Int} {R C : Nat} {P Q Z : Nat → gx_S → dS → Option (Nat × DS)} {N N' N'' c c' : Nat} {bs bs' bs'' : Nat → Int} (x : ATo f R C P Q N bs N' bs' c) (y : ATo f R C Q Z N' bs' N'' bs'' c') : ATo f R C P Z N bs N'' bs'' (c + c') := fun n pf L tb s δ b v h1 h2 h3 => by
  obtain ⟨u, ε, w, a1, a2, a3, a4, a5⟩ := x n pf L tb s δ b v h1 h2 h3
  obtain ⟨u', ε', w', b1, b2, b3, b4, b5⟩ := y n pf L tb u ε b w a2 a3 a5
  exact ⟨u', ε', w', a1.trans b1, b2, b3, DF_tr a4 b4, b5⟩
theorem ATo_c {f : Nat → Int} {R C : Nat} {P Q : Nat → gx_S → dS → Option (Nat × DS)} {N N' c c' : Nat} {bs bs' : Nat → Int} (x : ATo f R C P Q N bs N' bs' c) (h : c ≤ c') : ATo f R C P Q N bs N' bs' c' := fun n pf L tb s δ b v h1 h2 h3 => by
  obtain ⟨u, ε, w, a1, a2, a3, a4, a5⟩ := x n pf L tb s δ b v h1 h2 h3
  exact ⟨u, ε, w, a1, a2, a3, DF_c a4 h, a5⟩
theorem ATo_rf {f : Nat → Int} {R C : Nat} {P Q : Nat → gx_S → dS → Option (Nat × DS)} {N : Nat} {bs : Nat → Int} (h : ∀ b s δ, P b s δ = Q b s δ) : ATo f R C P Q N bs N bs 0 := fun _ _ _ _ s δ b v h1 h2 h3 => ⟨s, δ, v, h b s δ, h1, h2, DF_rf _ _, h3⟩
theorem dgl_le {y k : Nat} (h : (k = 1 ∧ y < 10) ∨ (k = 3 ∧ y < 1000) ∨ (k = 5 ∧ y < 100000)) : dgl y ≤ k := by
  unfold dgl
  (repeat' split) <;> omega
theorem dln_1 {x : Int} (h : 0 ≤ x ∧ x ≤ 9) : dln x ≤ 1 := by
  unfold dln
  rw [if_neg (by omega)]
  exact dgl_le (by omega)
theorem dln_3 {x : Int} (h : -1 ≤ x ∧ x ≤ 999) : dln x ≤ 3 := by
  unfold dln
  by_cases q : x < 0
  · have e : (-x).toNat = 1 := by omega
    rw [if_pos q, e]
    have := dgl_le (y := 1) (k := 1) (by omega)
    omega
  · rw [if_neg q]
    exact dgl_le (by omega)
theorem dln_5 {x : Int} (h : 0 ≤ x ∧ x ≤ 99999) : dln x ≤ 5 := by
  unfold dln
  rw [if_neg (by omega)]
  exact dgl_le (by omega)
theorem dln_6 {x : Int} (h : 0 ≤ x) : dln x ≤ 6 := by
  unfold dln
  rw [if_neg (by omega)]
  exact (dgl_r _).2
section
variable {Ls : Nat} {xs : Nat → Int32} {f : Nat → Int} {R C : Nat}
theorem clv_r (M : MP f R C) (h7 : f 2 = 7) {l y z : Nat} (hl : l < 3) : -1 ≤ clv f R C l y z ∧ clv f R C l y z ≤ 105 := by
  unfold clv
  by_cases q : y < R ∧ z < C
  · have hk : y * C + z < R * C := by
      have := Nat.mul_le_mul_right C (show y + 1 ≤ R by omega)
      rw [Nat.succ_mul] at this
      omega
    have r := MP_cl M h7 hl hk
    have e1 : (y * C + z) / C = y := by rw [Nat.mul_comm, Nat.mul_add_div (by omega), Nat.div_eq_of_lt q.2, Nat.add_zero]
    have e2 : (y * C + z) % C = z := by rw [Nat.mul_comm, Nat.mul_add_mod, Nat.mod_eq_of_lt q.2]
    rw [e1, e2] at r
    rw [if_pos q]
    by_cases q2 : l = 2
    · rw [if_pos q2] at r ⊢
      omega
    · rw [if_neg q2] at r ⊢
      split <;> omega
  · rw [if_neg q]
    omega
theorem al_17 {K : Nat → Int → gx_S → dS → Option (Nat × DS)} {l : Nat} (M : MP f R C) (h7 : f 2 = 7) (hl : l < 3) : ∀ (q k N : Nat) (bs : Nat → Int), 96 < q + k → k ≤ 96 → N + 4 * (96 - k) ≤ 1490 → rbt bs → ∃ (N' : Nat) (bs' : Nat → Int), N' ≤ N + 4 * (96 - k) ∧ rbt bs' ∧ ATo f R C (fun b s δ => dm_252_17 Ls xs K q b l k s δ) (fun b s δ => K b ((l + 1 : Nat) : Int) s δ) N bs N' bs' (2 * (96 - k)) := by
  intro q
  induction q with
  | zero => intro k N bs h; omega
  | succ q ih =>
    intro k N bs h hk hN hb
    by_cases e : k = 96
    · refine ⟨N, bs, by omega, hb, ATo_c (ATo_rf fun b s δ => ?_) (by omega)⟩
      rw [dm_252_17, if_pos (by omega), if_pos (by omega)]
      rfl
    · obtain ⟨x, hx⟩ : ∃ x, x = clv f R C l (k / 12) (k % 12) := ⟨_, rfl⟩
      have rx := clv_r (y := k / 12) (z := k % 12) M h7 hl
      rw [← hx] at rx
      have d3 := dln_3 (x := x) (by omega)
      obtain ⟨N', bs', n1, n2, n3⟩ := ih (k + 1) (N + dln x + 1) (ap_ (apn bs N x) (N + dln x) 32) (by omega) (by omega) (by omega) (ap_r (apn_r hb) (by omega))
      refine ⟨N', bs', by omega, n2, fun n pf L tb s δ b v Q S hv => ?_⟩
      have g1 := qs_cell Q h7 (l := l) (y := k / 12) (z := k % 12) hl (by omega) (by omega)
      rw [← hx] at g1
      obtain ⟨ε1, w1, a1, a2, a3, a4⟩ := sb_i (m := b) (x := x) s S (Nat.le_refl _) hv (by omega) (by omega)
      obtain ⟨ε2, w2, b1, b2, b3, b4⟩ := sb_c (m := b) (x := 32) s a2 (Nat.le_refl _) a4 (by omega) (by omega)
      obtain ⟨u, ε, w, z1, z2, z3, z4, z5⟩ := n3 n pf L tb s ε2 b w2 Q b2 b4
      refine ⟨u, ε, w, ?_, z2, z3, DF_c (DF_tr (DF_tr a3 b3) z4) (by omega), z5⟩
      have q1 : (k : Int) / 12 = ((k / 12 : Nat) : Int) := rfl
      have q2 : (k : Int) % 12 = ((k % 12 : Nat) : Int) := rfl
      show dm_252_17 Ls xs K (q + 1) b l k s δ = _
      rw [dm_252_17, if_pos (by omega), if_neg (by omega), if_pos (by omega), q1, q2, g1, Option.bind_some]
      dsimp only
      rw [if_pos S.1, a1, Option.bind_some]
      dsimp only
      rw [if_pos a2.1, b1, Option.bind_some]
      exact z1
theorem al_10 (M : MP f R C) (h7 : f 2 = 7) : ∀ (q l N : Nat) (bs : Nat → Int), 3 < q + l → l ≤ 3 → N + 384 * (3 - l) ≤ 1490 → rbt bs → ∃ (N' : Nat) (bs' : Nat → Int), N' ≤ N + 384 * (3 - l) ∧ rbt bs' ∧ ATo f R C (fun b s δ => dm_252_10 Ls xs q b l s δ) (fun b s δ => dm_252_60 Ls xs 100000 b ((0 : Nat) : Int) s δ) N bs N' bs' (192 * (3 - l)) := by
  intro q
  induction q with
  | zero => intro l N bs h; omega
  | succ q ih =>
    intro l N bs h hl hN hb
    by_cases e : l = 3
    · refine ⟨N, bs, by omega, hb, ATo_c (ATo_rf fun b s δ => ?_) (by omega)⟩
      rw [dm_252_10, if_pos (by omega), if_pos (by omega)]
      rfl
    · obtain ⟨N1, bs1, a1, a2, a3⟩ := al_17 (Ls := Ls) (xs := xs) (K := dm_252_10 Ls xs q) M h7 (show l < 3 by omega) 100000 0 N bs (by omega) (by omega) (by omega) hb
      obtain ⟨N', bs', b1, b2, b3⟩ := ih (l + 1) N1 bs1 (by omega) (by omega) (by omega) a2
      refine ⟨N', bs', by omega, b2, ATo_c (ATo_tr (Q := fun b s δ => dm_252_17 Ls xs (dm_252_10 Ls xs q) 100000 b l ((0 : Nat) : Int) s δ) (ATo_rf fun b s δ => ?_) (ATo_tr a3 b3)) (by omega)⟩
      rw [dm_252_10, if_pos (by omega), if_neg (by omega)]
      rfl
theorem ppv_r (M : MP f R C) {g y : Nat} (hg : g < 3) : 0 ≤ ppv f R C g y ∧ ppv f R C g y ≤ 99999 := by
  have ur := UN_r M hg
  have cb := M.2.2.2.2.1 g hg
  have c0 := sg_nn (f := fun z => f (5 + 9 * g + z)) (n := 9) (fun z hz => cb.1 z hz)
  have lr := LV_r M hg
  have as0 : 0 ≤ ASf f R C g := by
    unfold ASf
    split <;> omega
  have as1 : ASf f R C g ≤ 89991 := by
    unfold ASf
    split <;> omega
  unfold ppv
  by_cases q : y < 8
  · have a := lr.1 y q
    have b := sg_at (f := LV f R C g) (n := 8) lr.1 y q
    rw [if_pos q]
    omega
  · rw [if_neg q]
    by_cases q1 : y = 8
    · rw [if_pos q1]; omega
    · rw [if_neg q1]
      by_cases q2 : y = 9
      · rw [if_pos q2]; omega
      · rw [if_neg q2]; omega
theorem al_67 {K : Nat → Int → gx_S → dS → Option (Nat × DS)} {g : Nat} (M : MP f R C) (hg : g < 3) : ∀ (q k N : Nat) (bs : Nat → Int), 11 < q + k → k ≤ 11 → N + 7 * (11 - k) ≤ 1490 → rbt bs → ∃ (N' : Nat) (bs' : Nat → Int), N' ≤ N + 7 * (11 - k) ∧ rbt bs' ∧ ATo f R C (fun b s δ => dm_252_67 Ls xs K q b g k s δ) (fun b s δ => K b ((g + 1 : Nat) : Int) s δ) N bs N' bs' (3 * (11 - k)) := by
  intro q
  induction q with
  | zero => intro k N bs h; omega
  | succ q ih =>
    intro k N bs h hk hN hb
    by_cases e : k = 11
    · refine ⟨N, bs, by omega, hb, ATo_c (ATo_rf fun b s δ => ?_) (by omega)⟩
      rw [dm_252_67, if_pos (by omega), if_pos (by omega)]
      rfl
    · obtain ⟨x, hx⟩ : ∃ x, x = ppv f R C g k := ⟨_, rfl⟩
      have rx := ppv_r (y := k) M hg
      rw [← hx] at rx
      obtain ⟨y, hy⟩ : ∃ y, y = f (32 + 4 * g + k % 4) := ⟨_, rfl⟩
      have ry := M.2.2.2.2.2.1 (4 * g + k % 4) (by omega)
      rw [← Nat.add_assoc, ← hy] at ry
      have d5 := dln_5 rx
      have d1 := dln_1 ry
      obtain ⟨N', bs', n1, n2, n3⟩ := ih (k + 1) (N + dln x + 1 + dln y) (apn (ap_ (apn bs N x) (N + dln x) 44) (N + dln x + 1) y) (by omega) (by omega) (by omega) (apn_r (ap_r (apn_r hb) (by omega)))
      refine ⟨N', bs', by omega, n2, fun n pf L tb s δ b v Q S hv => ?_⟩
      obtain ⟨u1, g1, Q1⟩ := qs_people Q (g := g) (y := k) hg (by omega)
      rw [← hx] at g1
      have g2 := qs_weight Q1 (x := g) (y := k % 4) hg (by omega)
      rw [← hy] at g2
      obtain ⟨ε1, w1, a1, a2, a3, a4⟩ := sb_i (m := b) (x := x) u1 S (Nat.le_refl _) hv (by omega) (by omega)
      obtain ⟨ε2, w2, b1, b2, b3, b4⟩ := sb_c (m := b) (x := 44) u1 a2 (Nat.le_refl _) a4 (by omega) (by omega)
      obtain ⟨ε3, w3, c1, c2, c3, c4⟩ := sb_i (m := b) (x := y) u1 b2 (Nat.le_refl _) b4 (by omega) (by omega)
      obtain ⟨u, ε, w, z1, z2, z3, z4, z5⟩ := n3 n pf L tb u1 ε3 b w3 Q1 c2 c4
      refine ⟨u, ε, w, ?_, z2, z3, DF_c (DF_tr (DF_tr (DF_tr a3 b3) c3) z4) (by omega), z5⟩
      have q2 : (k : Int) % 4 = ((k % 4 : Nat) : Int) := rfl
      show dm_252_67 Ls xs K (q + 1) b g k s δ = _
      rw [dm_252_67, if_pos (by omega), if_neg (by omega), g1, Option.bind_some]
      dsimp only
      rw [if_pos S.1, a1, Option.bind_some]
      dsimp only
      rw [if_pos a2.1, b1, Option.bind_some]
      dsimp only
      rw [if_pos (by omega), q2, g2, Option.bind_some]
      dsimp only
      rw [if_pos b2.1, c1, Option.bind_some]
      exact z1
theorem al_60 (M : MP f R C) : ∀ (q g N : Nat) (bs : Nat → Int), 3 < q + g → g ≤ 3 → N + 77 * (3 - g) ≤ 1490 → rbt bs → ∃ (N' : Nat) (bs' : Nat → Int), N' ≤ N + 77 * (3 - g) ∧ rbt bs' ∧ ATo f R C (fun b s δ => dm_252_60 Ls xs q b g s δ) (fun b s δ => dm_252_114 Ls xs 100000 b ((0 : Nat) : Int) s δ) N bs N' bs' (33 * (3 - g)) := by
  intro q
  induction q with
  | zero => intro g N bs h; omega
  | succ q ih =>
    intro g N bs h hg hN hb
    by_cases e : g = 3
    · refine ⟨N, bs, by omega, hb, ATo_c (ATo_rf fun b s δ => ?_) (by omega)⟩
      rw [dm_252_60, if_pos (by omega), if_pos (by omega)]
      rfl
    · obtain ⟨N1, bs1, a1, a2, a3⟩ := al_67 (Ls := Ls) (xs := xs) (K := dm_252_60 Ls xs q) M (show g < 3 by omega) 100000 0 N bs (by omega) (by omega) (by omega) hb
      obtain ⟨N', bs', b1, b2, b3⟩ := ih (g + 1) N1 bs1 (by omega) (by omega) (by omega) a2
      refine ⟨N', bs', by omega, b2, ATo_c (ATo_tr (Q := fun b s δ => dm_252_67 Ls xs (dm_252_60 Ls xs q) 100000 b g ((0 : Nat) : Int) s δ) (ATo_rf fun b s δ => ?_) (ATo_tr a3 b3)) (by omega)⟩
      rw [dm_252_60, if_pos (by omega), if_neg (by omega)]
      rfl
theorem al_114 (M : MP f R C) : ∀ (q k N : Nat) (bs : Nat → Int), 8 < q + k → k ≤ 8 → N + (8 - k) ≤ 1490 → rbt bs → ∃ (N' : Nat) (bs' : Nat → Int), N' ≤ N + (8 - k) ∧ rbt bs' ∧ ATo f R C (fun b s δ => dm_252_114 Ls xs q b k s δ) (fun b s δ => dm_252_138 Ls xs 100000 b ((0 : Nat) : Int) s δ) N bs N' bs' (8 - k) := by
  intro q
  induction q with
  | zero => intro k N bs h; omega
  | succ q ih =>
    intro k N bs h hk hN hb
    by_cases e : k = 8
    · refine ⟨N, bs, by omega, hb, ATo_c (ATo_rf fun b s δ => ?_) (by omega)⟩
      rw [dm_252_114, if_pos (by omega), if_pos (by omega)]
      rfl
    · obtain ⟨x, hx⟩ : ∃ x, x = f (44 + k) := ⟨_, rfl⟩
      have rx := M.2.2.2.2.2.2.1 k (by omega)
      rw [← hx] at rx
      have d1 := dln_1 (x := x) (by omega)
      obtain ⟨N', bs', n1, n2, n3⟩ := ih (k + 1) (N + dln x) (apn bs N x) (by omega) (by omega) (by omega) (apn_r hb)
      refine ⟨N', bs', by omega, n2, fun n pf L tb s δ b v Q S hv => ?_⟩
      have g1 := qs_districtOf Q (x := k) (by omega)
      rw [← hx] at g1
      obtain ⟨ε1, w1, a1, a2, a3, a4⟩ := sb_i (m := b) (x := x) s S (Nat.le_refl _) hv (by omega) (by omega)
      obtain ⟨u, ε, w, z1, z2, z3, z4, z5⟩ := n3 n pf L tb s ε1 b w1 Q a2 a4
      refine ⟨u, ε, w, ?_, z2, z3, DF_c (DF_tr a3 z4) (by omega), z5⟩
      show dm_252_114 Ls xs (q + 1) b k s δ = _
      rw [dm_252_114, if_pos (by omega), if_neg (by omega), g1, Option.bind_some]
      dsimp only
      rw [if_pos S.1, a1, Option.bind_some]
      exact z1
theorem cnv_r (M : MP f R C) (h7 : f 2 = 7) (n L : Nat) {x : Nat} (hx : x ≤ 11) (h8 : ¬ x = 8) (h9 : ¬ x = 9) : cnv f R C n L x = cnv f R C 0 0 x ∧ 0 ≤ cnv f R C 0 0 x ∧ cnv f R C 0 0 x ≤ 999999 := by
  have N96 := MP_N M
  have k0 := KD_r f R C 0 8
  have k1 := KD_r f R C 1 8
  have k2 := KD_r f R C 2 4
  have r3 := M.2.2.1
  have r4 := M.2.2.2.1
  have m0 := sg_bd (f := fun g => sg (fun z => f (5 + 9 * g + z)) 9 - ASf f R C g) (B := 89991) (n := 3) (fun g hg => by
    have cb := M.2.2.2.2.1 g hg
    have la := LV_all M hg
    have l0 := sg_nn (LV_r M hg).1
    have ur := UN_r M hg
    have as0 : 0 ≤ ASf f R C g := by
      unfold ASf
      split <;> omega
    omega)
  have m1 := sg_bd (f := fun g => ASf f R C g) (B := 89991) (n := 3) (fun g hg => by
    have ur := UN_r M hg
    unfold ASf
    split <;> omega)
  have m0' : 0 ≤ mva f R C 3 ∧ mva f R C 3 ≤ 3 * 89991 := m0
  have m1' : 0 ≤ asa f R C 3 ∧ asa f R C 3 ≤ 3 * 89991 := m1
  have f0 := M.1.1
  have R8 := M.1.2.2.1
  unfold cnv
  by_cases x0 : x = 0
  · rw [if_pos x0, if_pos x0]; omega
  rw [if_neg x0, if_neg x0]
  by_cases x1 : x = 1
  · rw [if_pos x1, if_pos x1]; omega
  rw [if_neg x1, if_neg x1]
  by_cases x2 : x = 2
  · rw [if_pos x2, if_pos x2]; omega
  rw [if_neg x2, if_neg x2]
  by_cases x3 : x = 3
  · rw [if_pos x3, if_pos x3]; omega
  rw [if_neg x3, if_neg x3]
  by_cases x4 : x = 4
  · rw [if_pos x4, if_pos x4]; omega
  rw [if_neg x4, if_neg x4]
  by_cases x5 : x = 5
  · rw [if_pos x5, if_pos x5]; omega
  rw [if_neg x5, if_neg x5]
  by_cases x6 : x = 6
  · rw [if_pos x6, if_pos x6]; omega
  rw [if_neg x6, if_neg x6]
  by_cases x7 : x = 7
  · rw [if_pos x7, if_pos x7]; omega
  rw [if_neg x7, if_neg x7, if_neg h8, if_neg h8, if_neg h9, if_neg h9]
  by_cases x10 : x = 10
  · rw [if_pos x10]; omega
  · rw [if_neg x10]; omega
theorem al_138 (M : MP f R C) (h7 : f 2 = 7) : ∀ (q k N : Nat) (bs : Nat → Int), 12 < q + k → k ≤ 12 → N + 7 * (12 - k) ≤ 1500 → rbt bs → ∃ (N' : Nat) (bs' : Nat → Int), N' ≤ N + 7 * (12 - k) ∧ rbt bs' ∧ ATo f R C (fun b s δ => dm_252_138 Ls xs q b k s δ) (fun b s δ => if dO δ b 11 then (dm_262 b s δ).bind fun q3 => some (q3.1, q3.2.1, q3.2.2) else none) N bs N' bs' (2 * (12 - k)) := by
  intro q
  induction q with
  | zero => intro k N bs h; omega
  | succ q ih =>
    intro k N bs h hk hN hb
    by_cases e : k = 12
    · refine ⟨N, bs, by omega, hb, ATo_c (ATo_rf fun b s δ => ?_) (by omega)⟩
      rw [dm_252_138, if_pos (by omega), if_pos (by omega)]
    · by_cases k89 : k = 8 ∨ k = 9
      · obtain ⟨N', bs', n1, n2, n3⟩ := ih (k + 1) N bs (by omega) (by omega) (by omega) hb
        refine ⟨N', bs', by omega, n2, ATo_c (ATo_tr (Q := fun b s δ => dm_252_138 Ls xs q b ((k + 1 : Nat) : Int) s δ) (ATo_rf fun b s δ => ?_) n3) (by omega)⟩
        rw [dm_252_138, if_pos (by omega), if_neg (by omega)]
        by_cases k8 : (k : Int) = 8
        · rw [if_pos k8]
          rfl
        · rw [if_neg k8, if_pos (by omega)]
          rfl
      · obtain ⟨x, hx⟩ : ∃ x, x = cnv f R C 0 0 k := ⟨_, rfl⟩
        have rx := fun n L => cnv_r M h7 n L (x := k) (by omega) (by omega) (by omega)
        rw [← hx] at rx
        have rx0 := (rx 0 0).2
        have d6 := dln_6 (x := x) rx0.1
        obtain ⟨N', bs', n1, n2, n3⟩ := ih (k + 1) (N + 1 + dln x) (apn (ap_ bs N 32) (N + 1) x) (by omega) (by omega) (by omega) (apn_r (ap_r hb (by omega)))
        refine ⟨N', bs', by omega, n2, fun n pf L tb s δ b v Q S hv => ?_⟩
        obtain ⟨u1, g1, Q1⟩ := qs_count Q h7 (x := k) (by omega)
        rw [(rx n L).1] at g1
        obtain ⟨ε1, w1, a1, a2, a3, a4⟩ := sb_c (m := b) (x := 32) s S (Nat.le_refl _) hv (by omega) (by omega)
        obtain ⟨ε2, w2, b1, b2, b3, b4⟩ := sb_i (m := b) (x := x) u1 a2 (Nat.le_refl _) a4 (by omega) (by omega)
        obtain ⟨u, ε, w, z1, z2, z3, z4, z5⟩ := n3 n pf L tb u1 ε2 b w2 Q1 b2 b4
        refine ⟨u, ε, w, ?_, z2, z3, DF_c (DF_tr (DF_tr a3 b3) z4) (by omega), z5⟩
        show dm_252_138 Ls xs (q + 1) b k s δ = _
        rw [dm_252_138, if_pos (by omega), if_neg (by omega), if_neg (by omega), if_neg (by omega), if_pos S.1, a1, Option.bind_some]
        dsimp only
        rw [g1, Option.bind_some]
        dsimp only
        rw [if_pos a2.1, b1, Option.bind_some]
        exact z1
/-- all that is told -/
theorem all_ (f : Nat → Int) (R C : Nat) (M : MP f R C) (h7 : f 2 = 7) : ∃ (N : Nat) (bs : Nat → Int), N ≤ 1500 ∧ rbt bs ∧ ∀ (n : Nat) (pf : Nat → Nat → Int) (L : Nat) (tb : Nat → Int) (s : gx_S) (δ : dS), QS f R C n pf L tb s → 215 ≤ δ.n → ∃ (x : Nat) (u : gx_S) (ε : dS), dm_252 Ls xs s δ = some (x, u, ε) ∧ QS f R C n pf L tb u ∧ STR ε x (x + 1) N bs ∧ δ.n ≤ x ∧ DF δ.n 711 δ ε := by
  obtain ⟨N1, b1, p1, p2, p3⟩ := al_10 (Ls := Ls) (xs := xs) M h7 100000 0 0 (fun _ => 0) (by omega) (by omega) (by omega) (fun _ => (show 0 ≤ (0 : Int) ∧ (0 : Int) < 128 by omega))
  obtain ⟨N2, b2, q1, q2, q3⟩ := al_60 (Ls := Ls) (xs := xs) M 100000 0 N1 b1 (by omega) (by omega) (by omega) p2
  obtain ⟨N3, b3, r1, r2, r3⟩ := al_114 (Ls := Ls) (xs := xs) M 100000 0 N2 b2 (by omega) (by omega) (by omega) q2
  obtain ⟨N4, b4, t1, t2, t3⟩ := al_138 (Ls := Ls) (xs := xs) M h7 100000 0 N3 b3 (by omega) (by omega) (by omega) r2
  refine ⟨N4, b4, by omega, t2, fun n pf L tb s δ Q hn => ?_⟩
  obtain ⟨ε1, a1, a2, a3, a4⟩ := sb_new s hn
  obtain ⟨u, ε2, w, c1, c2, c3, c4, c5⟩ := ATo_tr p3 (ATo_tr q3 (ATo_tr r3 t3)) n pf L tb s ε1 δ.n (δ.n + 1) Q a2 (by omega)
  obtain ⟨ε3, d1, d2, d3⟩ := sb_str u c3
  have nn_ := c3.1.2.1
  refine ⟨ε2.n, u, ε3, ?_, c2, d2, by omega, DF_c (DF_tr a3 (DF_tr c4 (DF_mono (by omega) (Nat.le_refl _) d3))) (by omega)⟩
  unfold dm_252
  rw [Option.bind_some, if_pos a4, a1, Option.bind_some]
  refine c1.trans ?_
  show (if dO ε2 δ.n 11 then (dm_262 δ.n u ε2).bind fun q3 => some (q3.1, q3.2.1, q3.2.2) else none) = _
  rw [if_pos c3.1, d1, Option.bind_some]
end
