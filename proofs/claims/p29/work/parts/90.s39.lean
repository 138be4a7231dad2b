/-! THE REFERENCE's BALANCED TABLE: canBe -/
theorem sg_one : ∀ n : Nat, sg (fun _ => 1) n = n
  | 0 => rfl
  | n + 1 => by
    show sg (fun _ => 1) n + 1 = _
    rw [sg_one n]
    rfl
theorem vl_sum (s : gx_S) (f : Nat → Nat) (n : Nat) : 0 ≤ sg (fun k => vl s (f k)) n ∧ sg (fun k => vl s (f k)) n ≤ n := by
  refine ⟨sg_nn fun k _ => by rcases vl_01 s (f k) with h | h <;> omega, ?_⟩
  rw [← sg_one n]
  exact sg_le fun k _ => by
    show vl s (f k) ≤ 1
    rcases vl_01 s (f k) with h | h <;> omega
theorem sl_171a {R m : Nat} {s : gx_S} (K : RB s R m) (W : WB s) (h01 : C01 s) (hv : ∀ r c, r < R → c < m → s.1 233 (9 * r + c) = 1 → s.1 234 (9 * r + c) = 1 → 0 < s.2 225 (9 * r + c)) (h6 : ∀ r, r < R → 0 ≤ s.2 226 r ∧ s.2 226 r ≤ 9) (h7 : ∀ c, c < 9 → (0 ≤ s.2 227 c ∧ s.2 227 c ≤ 9) ∧ 0 ≤ s.2 228 c ∧ s.2 228 c ≤ 9) : ∃ d : gx_S, gm_171 s = ((gm_170 d).bind fun q => gm_171_188 100000 0 q) ∧ cb s d ∧ RK d R m ∧ WB d ∧ (∀ r c, r < R → c < m → d.1 232 (9 * r + c) = vl s (9 * r + c)) ∧ (∀ r, r < R → d.2 231 r = s.2 226 r - sg (fun c => vl s (9 * r + c)) m) ∧ (∀ c, c < m → d.2 230 c = sg (fun r => vl s (9 * r + c)) R) ∧ ∀ c, c < m → d.2 229 c = s.2 227 c := by
  obtain ⟨k1, k2, k3, k4, k5, k6⟩ := id K
  obtain ⟨a, a1, a2, a3, a4⟩ := sl_171_2 k5 100000 0 s (by omega) (by omega) k3
  obtain ⟨b, b1, b2, b3, b4, b5⟩ := sl_171_30 k6 100000 0 a (by omega) (by omega) (by rw [a2]; exact k4)
  have bs : b.1 = s.1 := b2.trans a2
  have cbb : cb s b := ⟨fun k j _ _ => by rw [bs], fun k j h1 h2 h3 => (b3 k j h1 h2).trans (a3 k j h3)⟩
  have J0 : JC b b R m 0 0 := by
    have z : ∀ (x y : Nat) (v : Int), (if ev 0 0 x y then v else 0) = 0 := fun x y v => if_neg (by unfold ev; omega)
    refine ⟨cb_rf b, fun _ => rfl, fun _ => rfl, fun x _ => ?_, fun _ _ => rfl, fun y _ => ?_, fun _ _ => rfl, fun x y _ _ h => absurd h (by unfold ev; omega), fun j hj => .inl rfl⟩
    · rw [sg_0 fun y _ => z x y _]
      omega
    · rw [sg_0 fun x _ => z x y _]
      omega
  obtain ⟨d, d1, j1, j2, j3, j4, j5, j6, j7, j8, j9⟩ := sl_171_65 (s0 := b) k5 k6 (by rw [bs]; exact k3) (by rw [bs]; exact k4) (fun j hj => by rw [bs]; exact h01 j hj) 100000 0 b (by omega) (by omega) J0
  have vb : ∀ j, vl b j = vl s j := fun j => vl_cb cbb j
  have io : ∀ (x y : Nat) (v : Int), x < R → (if ev R 0 x y then v else 0) = v := fun x y v h => if_pos (.inl h)
  have cd := cb_tr cbb j1
  have q5 : ∀ r c, r < R → c < m → d.1 232 (9 * r + c) = vl s (9 * r + c) := fun r c hr hc => by
    rw [j8 r c hr hc (.inl hr), vb]
  have q6 : ∀ r, r < R → d.2 231 r = s.2 226 r - sg (fun c => vl s (9 * r + c)) m := fun r hr => by
    rw [j4 r hr, b3 231 r (by decide) (by decide), a4 r, if_pos (by omega), sg_eq (g := fun c => vl s (9 * r + c)) fun c _ => by rw [io r c _ hr, vb]]
  have q7 : ∀ c, c < m → d.2 230 c = sg (fun r => vl s (9 * r + c)) R := fun c hc => by
    rw [j6 c hc, b5 c, if_pos (by omega), sg_eq (g := fun r => vl s (9 * r + c)) fun r hr => by rw [io r c _ hr, vb]]
    omega
  have q8 : ∀ c, c < m → d.2 229 c = s.2 227 c := fun c hc => by
    rw [j3, b4 c, if_pos (by omega), a3 227 c (by decide)]
  refine ⟨d, ?_, cd, RB_RK ⟨fun j hj => ⟨?_, ?_, ?_⟩, fun c hc => ⟨?_, ?_⟩, ?_, ?_, k5, k6⟩ fun r c hr hc h => ?_, fun k hk => ?_, q5, q6, q7, q8⟩
  · unfold gm_171
    have a1 : gm_171_2 100000 0 s = _ := a1
    have b1 : gm_171_30 100000 0 a = _ := b1
    have d1 : gm_171_65 100000 0 b = _ := d1
    rw [a1, b1, d1]
  · rcases j9 j hj with h | h
    · rw [h, bs]
      exact (k1 j hj).1
    · exact h
  · rw [cd.1 233 j (by omega) (by omega)]
    exact (k1 j hj).2.1
  · rw [cd.2 225 j (by omega) (by omega) (by omega)]
    exact (k1 j hj).2.2
  · rw [j2, bs]
    exact (k2 c hc).1
  · have x := (k2 c hc).2
    have y := h7 c hc
    by_cases q : c < m
    · rw [q8 c q, q7 c q]
      have z := vl_sum s (fun r => 9 * r + c) R
      have z : 0 ≤ sg (fun r => vl s (9 * r + c)) R ∧ sg (fun r => vl s (9 * r + c)) R ≤ R := z
      omega
    · rw [j3, b4 c, if_neg (by omega), a3 229 c (by decide), j7 c (by omega), b5 c, if_neg (by omega), a3 230 c (by decide)]
      exact x
  · rw [cd.1 215 17 (by omega) (by omega)]
    exact k3
  · rw [cd.1 215 18 (by omega) (by omega)]
    exact k4
  · rw [q5 r c hr hc] at h
    rw [cd.2 225 _ (by omega) (by omega) (by omega)]
    have w := h01 (9 * r + c) (by omega)
    unfold vl at h
    by_cases z3 : s.1 233 (9 * r + c) = 0
    · rw [if_pos z3] at h
      exact absurd h (by decide)
    · rw [if_neg z3] at h
      by_cases z4 : s.1 234 (9 * r + c) = 0
      · rw [if_pos z4] at h
        exact absurd h (by decide)
      · exact hv r c hr hc (w.1.resolve_left z3) (w.2.resolve_left z4)
  · by_cases q : k < R
    · rw [q6 k q]
      have z := vl_sum s (fun c => 9 * k + c) m
      have z : 0 ≤ sg (fun c => vl s (9 * k + c)) m ∧ sg (fun c => vl s (9 * k + c)) m ≤ m := z
      have y := h6 k q
      omega
    · rw [j5 k (by omega), b3 231 k (by decide) (by decide), a4 k, if_neg (by omega)]
      exact W k hk
theorem sp_171 {R m : Nat} {s : gx_S} (K : RB s R m) (W : WB s) (h01 : C01 s) (hv : ∀ r c, r < R → c < m → s.1 233 (9 * r + c) = 1 → s.1 234 (9 * r + c) = 1 → 0 < s.2 225 (9 * r + c)) (h6 : ∀ r, r < R → 0 ≤ s.2 226 r ∧ s.2 226 r ≤ 9) (h7 : ∀ c, c < 9 → (0 ≤ s.2 227 c ∧ s.2 227 c ≤ 9) ∧ 0 ≤ s.2 228 c ∧ s.2 228 c ≤ 9) : ∃ (v : Bool) (u : gx_S), gm_171 s = some (v, u) ∧ cb s u ∧ RB u R m ∧ WB u ∧ (v = true ↔ ∃ T, FEr s R m T ∧ AGr s R m T) := by
  obtain ⟨d, d1, d2, d3, d4, d5, d6, d7, d8⟩ := sl_171a K W h01 hv h6 h7
  have R8 : R ≤ 8 := K.2.2.2.2.1
  have m9 : m ≤ 9 := K.2.2.2.2.2
  obtain ⟨e, e1, e2, e3, e4⟩ := sp_170 d3 d4
  have ce := cb_tr d2 (cb_GW e2)
  have We := GW_WB e2 d4
  have Id : IW s d R m := ⟨fun r hr => by
    rw [sg_eq (g := fun c => vl s (9 * r + c)) fun c hc => d5 r c hr hc, d6 r hr]
    omega, fun c hc => by rw [sg_eq (g := fun r => vl s (9 * r + c)) fun r hr => d5 r c hr hc, d7 c hc]⟩
  have Ie := IW_GW Id e2 R8 m9 d3.2.2.1 d3.2.2.2.1
  have Fe := FXd_GW (fun r c hr hc _ => d5 r c hr hc) d2 e2 R8 m9 d3.2.2.1 d3.2.2.2.1
  have le : ∀ T, FEr s R m T → AGr s R m T → ∀ r c, r < R → c < m → vl s (9 * r + c) ≤ T (9 * r + c) := fun T T1 T2 r c hr hc => by
    have t1 := (T1.1 r c hr hc).1
    rcases (h01 (9 * r + c) (by omega)).1 with z | z
    · rw [show vl s (9 * r + c) = 0 from if_pos z]
      omega
    · rw [AG_vl h01 R8 m9 T2 hr hc z]
      omega
  have ew : ∀ T, FEr s R m T → AGr s R m T → ∀ r, r < R → 0 ≤ e.2 231 r := fun T T1 T2 r hr => by
    refine (e2.2.2.2.2.2.1 r (by omega)).2.2 ?_
    rw [d6 r hr, ← T1.2.1 r hr]
    have := sg_le (f := fun c => vl s (9 * r + c)) (g := fun c => T (9 * r + c)) (n := m) fun c hc => le T T1 T2 r c hr hc
    omega
  have ec : ∀ T, FEr s R m T → AGr s R m T → ∀ c, c < m → s.2 227 c ≤ e.2 230 c ∧ e.2 230 c ≤ s.2 228 c := fun T T1 T2 => by
    have hf : ∀ c, c < m → e.2 230 c ≤ sg (fun r => T (9 * r + c)) R := fun c hc => by
      have a := (e2.2.2.2.2.2.2 c (by omega)).2
      rw [d7 c hc, d8 c hc] at a
      have b := sg_le (f := fun r => vl s (9 * r + c)) (g := fun r => T (9 * r + c)) (n := R) fun r hr => le T T1 T2 r c hr hc
      have t := (T1.2.2 c hc).1
      omega
    have a := ph1 ce e3 Fe h01 T1 T2 Ie (ew T T1 T2) (fun c hc => by rw [e2.2.1 229 c (by decide) (by decide), d8 c hc]) hf e4
    intro c hc
    have t := (T1.2.2 c hc).2
    have := hf c hc
    exact ⟨a c hc, by omega⟩
  have E := e3
  obtain ⟨k1, k2, k3, k4, k5, k6⟩ := E
  obtain ⟨f, f1, f2, f3⟩ := sl_171_188 m9 100000 0 e (by omega) (by omega) k4 fun j hj => by
    have a := k2 j hj
    have b := h7 j hj
    rw [ce.2 227 j (by decide) (by decide) (by decide), ce.2 228 j (by decide) (by decide) (by decide)]
    unfold i64
    omega
  have e7 : ∀ j, e.2 227 j = s.2 227 j := fun j => ce.2 227 j (by decide) (by decide) (by decide)
  have e8 : ∀ j, e.2 228 j = s.2 228 j := fun j => ce.2 228 j (by decide) (by decide) (by decide)
  have cf : cb s f := cb_tr ce ⟨fun k j _ _ => by rw [f1], fun k j h _ _ => f2 k j h⟩
  have Wf : WB f := fun k hk => by
    rw [f2 231 k (by decide)]
    exact We k hk
  rw [d1, e1, Option.bind_some]
  rcases f3 with ⟨⟨j, p1, p2⟩, p3, p4⟩ | ⟨p1, p2, p3⟩
  · have p4 : gm_171_188 100000 0 e = _ := p4
    rw [p4]
    refine ⟨false, f, rfl, cf, ⟨fun j hj => ?_, fun c hc => ?_, by rw [f1]; exact k3, by rw [f1]; exact k4, R8, m9⟩, Wf, fun h => Bool.noConfusion h, fun ⟨T, T1, T2⟩ => ?_⟩
    · rw [f1, f2 225 j (by decide)]
      exact ⟨(k1 j hj).1, (k1 j hj).2.1, (k1 j hj).2.2.1⟩
    · rw [f1, f2 230 c (by decide)]
      have a := k2 c hc
      have b := h7 c hc
      have x := p3 c
      rw [e8] at x
      refine ⟨a.1, ?_, ?_, a.2.2.2⟩ <;> rcases x with x | ⟨_, x⟩ <;> omega
    · have a := ec T T1 T2 j p1
      rw [e7, e8] at p2
      exact absurd a p2
  · have p3 : gm_171_188 100000 0 e = _ := p3
    rw [p3]
    have Kf : RK f R m := by
      refine ⟨fun j hj => ?_, fun c hc => ?_, by rw [f1]; exact k3, by rw [f1]; exact k4, R8, m9⟩
      · rw [f1, f2 225 j (by decide)]
        exact k1 j hj
      · rw [f1, f2 230 c (by decide), p2 c, e8]
        have a := k2 c hc
        have b := h7 c hc
        refine ⟨a.1, ?_, ?_, a.2.2.2⟩ <;> split <;> omega
    have If : IW s f R m := ⟨fun r hr => by rw [f1, f2 231 r (by decide)]; exact Ie.1 r hr, fun c hc => by rw [f1, f2 230 c (by decide)]; exact Ie.2 c hc⟩
    have Ff : FXd s f R m := fun r c hr hc h => by rw [f1]; exact Fe r c hr hc h
    obtain ⟨g, g1, g2, g3, g4⟩ := sp_170 Kf Wf
    have cg := cb_tr cf (cb_GW g2)
    have Wg := GW_WB g2 Wf
    have Ig := IW_GW If g2 R8 m9 Kf.2.2.1 Kf.2.2.2.1
    have Fg := FXd_GW Ff cf g2 R8 m9 Kf.2.2.1 Kf.2.2.2.1
    obtain ⟨v, v1, v2⟩ := sl_171_254 R8 g3.2.2.1 Wg 100000 0 (by omega) (by omega)
    have v1 : gm_171_254 100000 0 g = _ := v1
    rw [g1, Option.bind_some, v1]
    refine ⟨v, g, rfl, cg, RK_RB g3, Wg, fun h => ⟨g.1 232, ⟨fun r c hr hc => ⟨(g3.1 _ (by omega)).1, fun h1 => ?_⟩, fun r hr => ?_, fun c hc => ?_⟩, fun r c hr hc h1 => ?_⟩, fun ⟨T, T1, T2⟩ => ?_⟩
    · have a := (g3.1 (9 * r + c) (by omega)).2.2.2 h1
      rw [cg.2 225 _ (by decide) (by decide) (by decide)] at a
      exact a (by rw [g3.2.2.1]; omega) (by rw [g3.2.2.2.1]; omega)
    · have a := Ig.1 r hr
      rw [v2.mp h r (by omega) hr] at a
      omega
    · have a := Ig.2 c hc
      have b := g2.2.2.2.2.2.2 c (by omega)
      have x := p1 c (by omega) hc
      rw [f2 230 c (by decide), p2 c, if_pos (by omega)] at b
      rw [e7, e8] at x
      rw [e8] at b
      show _ ≤ sg (fun r => g.1 232 (9 * r + c)) R ∧ sg (fun r => g.1 232 (9 * r + c)) R ≤ _
      omega
    · rw [Fg r c hr hc h1]
      unfold vl
      rw [if_neg (by rw [h1]; decide)]
      rcases (h01 (9 * r + c) (by omega)).2 with q | q
      · rw [if_pos q, q]
      · rw [if_neg (by rw [q]; decide), q]
    · refine v2.mpr fun r _ hr => ph2 cg g3 Fg h01 T1 T2 Ig (fun r hr => ?_) (fun c hc => ?_) g4 r hr
      · refine (g2.2.2.2.2.2.1 r (by omega)).2.2 ?_
        rw [f2 231 r (by decide)]
        exact ew T T1 T2 r hr
      · rw [g2.2.1 229 c (by decide) (by decide), p2 c, if_pos (by omega), e8]
