section
/-! THE REFERENCE's BALANCED TABLE: canBe says whether a table comes right that agrees with what is fixed -/
theorem bdec (P : Nat → Prop) : ∃ f : Nat → Bool, ∀ n, f n = true ↔ P n := ⟨fun n => @decide (P n) (Classical.propDecidable _), fun n => @decide_eq_true_iff (P n) (Classical.propDecidable _)⟩
def IW (s x : gx_S) (R m : Nat) : Prop := (∀ r, r < R → sg (fun c => x.1 232 (9 * r + c)) m + x.2 231 r = s.2 226 r) ∧ ∀ c, c < m → sg (fun r => x.1 232 (9 * r + c)) R = x.2 230 c
def FXd (s x : gx_S) (R m : Nat) : Prop := ∀ r c, r < R → c < m → s.1 233 (9 * r + c) = 1 → x.1 232 (9 * r + c) = vl s (9 * r + c)
theorem GW_on {x y : gx_S} {R m : Nat} (G : GW x y) (h17 : x.1 215 17 = R) (h18 : x.1 215 18 = m) {r c : Nat} (hr : r < 8) (hc : c < 9) (h : R ≤ r ∨ m ≤ c ∨ ¬ x.1 233 (9 * r + c) = 0) : y.1 232 (9 * r + c) = x.1 232 (9 * r + c) := by
  rcases G.2.2.1 (9 * r + c) (by omega) with a | a
  · exact a
  · obtain ⟨a1, a2, a3, a4⟩ := a
    rw [h17] at a3
    rw [h18] at a4
    rcases h with h | h | h
    · omega
    · omega
    · exact absurd a1 h
theorem IW_GW {s x y : gx_S} {R m : Nat} (I : IW s x R m) (G : GW x y) (R8 : R ≤ 8) (m9 : m ≤ 9) (h17 : x.1 215 17 = R) (h18 : x.1 215 18 = m) : IW s y R m := by
  refine ⟨fun r hr => ?_, fun c hc => ?_⟩
  · have a := G.2.2.2.1 r (by omega)
    have b := sg_dcut (f := fun c => y.1 232 (9 * r + c)) (g := fun c => x.1 232 (9 * r + c)) m9 fun k h1 h2 => GW_on G h17 h18 (by omega) h2 (.inr (.inl h1))
    have d := I.1 r hr
    unfold or_ at a
    omega
  · have a := G.2.2.2.2.1 c (by omega)
    have b := sg_dcut (f := fun r => y.1 232 (9 * r + c)) (g := fun r => x.1 232 (9 * r + c)) R8 fun k h1 h2 => GW_on G h17 h18 h2 (by omega) (.inl h1)
    have d := I.2 c hc
    unfold oc_ at a
    omega
theorem FXd_GW {s x y : gx_S} {R m : Nat} (I : FXd s x R m) (a : cb s x) (G : GW x y) (R8 : R ≤ 8) (m9 : m ≤ 9) (h17 : x.1 215 17 = R) (h18 : x.1 215 18 = m) : FXd s y R m := fun r c hr hc h => by
  rw [GW_on G h17 h18 (by omega) (by omega) (.inr (.inr (by rw [a.1 233 _ (by omega) (by omega), h]; decide)))]
  exact I r c hr hc h
theorem AG_vl {s : gx_S} {R m : Nat} {T : Nat → Int} (h01 : C01 s) (R8 : R ≤ 8) (m9 : m ≤ 9) (A : AGr s R m T) {r c : Nat} (hr : r < R) (hc : c < m) (h : s.1 233 (9 * r + c) = 1) : T (9 * r + c) = vl s (9 * r + c) := by
  rw [A r c hr hc h]
  unfold vl
  rw [if_neg (by rw [h]; decide)]
  rcases (h01 (9 * r + c) (by omega)).2 with q | q
  · rw [if_pos q, q]
  · rw [if_neg (by rw [q]; decide), q]
/-- within a closed set of columns, and out of it -/
theorem cut_T {s x : gx_S} {R m : Nat} {T : Nat → Int} (cx : cb s x) (K : RK x R m) (F : FXd s x R m) (h01 : C01 s) (T1 : FEr s R m T) (T2 : AGr s R m T) {C Q : Nat → Prop} (hC : ∀ c, c < m → C c → ∀ r', r' < R → x.1 232 (9 * r' + c) = 1 → x.1 233 (9 * r' + c) = 0 → ∀ d, d < m → can1 x r' d → C d) (hQ : ∀ r, r < R → Q r → ∀ d, d < m → can1 x r d → C d) : ∃ Rb Cb : Nat → Bool, (∀ c, Cb c = true ↔ C c) ∧ (∀ r, Rb r = true ↔ (Q r ∨ ∃ c, c < m ∧ C c ∧ x.1 232 (9 * r + c) = 1 ∧ x.1 233 (9 * r + c) = 0)) ∧ (∀ r c, r < R → c < m → Rb r = true → Cb c = false → T (9 * r + c) - x.1 232 (9 * r + c) ≤ 0) ∧ ∀ r c, r < R → c < m → Rb r = false → Cb c = true → 0 ≤ T (9 * r + c) - x.1 232 (9 * r + c) := by
  have R8 : R ≤ 8 := K.2.2.2.2.1
  have m9 : m ≤ 9 := K.2.2.2.2.2
  obtain ⟨Cb, eC⟩ := bdec C
  obtain ⟨Rb, eR⟩ := bdec fun r => Q r ∨ ∃ c, c < m ∧ C c ∧ x.1 232 (9 * r + c) = 1 ∧ x.1 233 (9 * r + c) = 0
  refine ⟨Rb, Cb, eC, eR, fun r c hr hc h1 h2 => ?_, fun r c hr hc h1 h2 => ?_⟩
  · have nC : ¬ C c := fun h => by
      rw [(eC c).mpr h] at h2
      exact Bool.noConfusion h2
    have nc : ¬ can1 x r c := fun h => nC (by
      rcases (eR r).mp h1 with q | ⟨c', q1, q2, q3, q4⟩
      · exact hQ r hr q c hc h
      · exact hC c' q1 q2 r hr q3 q4 c hc h)
    have k := K.1 (9 * r + c) (by omega)
    obtain ⟨t1, t2⟩ := T1.1 r c hr hc
    rcases k.1 with on | on
    · rcases k.2.1 with fx | fx
      · have z : ¬ 0 < x.2 225 (9 * r + c) := fun h => nc ⟨h, fx, on⟩
        rw [cx.2 225 _ (by omega) (by omega) (by omega)] at z
        rcases t1 with e | e
        · omega
        · exact absurd (t2 e) z
      · have e := cx.1 233 (9 * r + c) (by omega) (by omega)
        have a := AG_vl h01 R8 m9 T2 hr hc (e.symm.trans fx)
        have b := F r c hr hc (e.symm.trans fx)
        omega
    · omega
  · have nR : ¬ (x.1 232 (9 * r + c) = 1 ∧ x.1 233 (9 * r + c) = 0) := fun h => by
      rw [(eR r).mpr (.inr ⟨c, hc, (eC c).mp h2, h.1, h.2⟩)] at h1
      exact Bool.noConfusion h1
    have k := K.1 (9 * r + c) (by omega)
    obtain ⟨t1, t2⟩ := T1.1 r c hr hc
    rcases k.1 with on | on
    · omega
    · rcases k.2.1 with fx | fx
      · exact absurd ⟨on, fx⟩ nR
      · have e := cx.1 233 (9 * r + c) (by omega) (by omega)
        have a := AG_vl h01 R8 m9 T2 hr hc (e.symm.trans fx)
        have b := F r c hr hc (e.symm.trans fx)
        omega
theorem sg_sub (f g : Nat → Int) (n : Nat) : sg (fun c => f c - g c) n = sg f n - sg g n := by
  have a := sg_add f (fun c => - g c) n
  rw [sg_neg] at a
  have b : sg (fun c => f c - g c) n = sg (fun c => f c + - g c) n := sg_eq fun c _ => Int.sub_eq_add_neg
  omega
/-- the least first: every column has its least -/
theorem ph1 {s x : gx_S} {R m : Nat} {T : Nat → Int} (cx : cb s x) (K : RK x R m) (F : FXd s x R m) (h01 : C01 s) (T1 : FEr s R m T) (T2 : AGr s R m T) (I : IW s x R m) (hw : ∀ r, r < R → 0 ≤ x.2 231 r) (hl : ∀ c, c < m → x.2 229 c = s.2 227 c) (hf : ∀ c, c < m → x.2 230 c ≤ sg (fun r => T (9 * r + c)) R) (S : ∀ r, r < R → 0 < x.2 231 r → SK x r R m) : ∀ c, c < m → s.2 227 c ≤ x.2 230 c := by
  obtain ⟨Rb, Cb, eC, eR, h1, h2⟩ := cut_T cx K F h01 T1 T2 (C := fun c => ∃ r0, r0 < R ∧ 0 < x.2 231 r0 ∧ ∃ C0 : Nat → Prop, (∀ c, c < m → can1 x r0 c → C0 c) ∧ (∀ c, c < m → C0 c → x.2 229 c ≤ x.2 230 c ∧ ∀ r', r' < R → x.1 232 (9 * r' + c) = 1 → x.1 233 (9 * r' + c) = 0 → ∀ d, d < m → can1 x r' d → C0 d) ∧ C0 c) (Q := fun r => 0 < x.2 231 r) (fun c hc ⟨r0, p1, p2, C0, p3, p4, p5⟩ r' hr' q1 q2 d hd q3 => ⟨r0, p1, p2, C0, p3, p4, (p4 c hc p5).2 r' hr' q1 q2 d hd q3⟩) (fun r hr h d hd q => by
    obtain ⟨C0, p3, p4⟩ := S r hr h
    exact ⟨r, hr, h, C0, p3, p4, p3 d hd q⟩)
  have key := cut_eq (y := fun r c => x.1 232 (9 * r + c) - T (9 * r + c)) (R := fun r => !Rb r) (C := fun c => !Cb c) (m := R) (n := m) (fun r c hr hc a b => by
    have := h2 r c hr hc (by simpa using a) (by simpa using b)
    show x.1 232 (9 * r + c) - T (9 * r + c) ≤ 0
    omega) (fun r c hr hc a b => by
    have := h1 r c hr hc (by simpa using a) (by simpa using b)
    show 0 ≤ x.1 232 (9 * r + c) - T (9 * r + c)
    omega) (fun r hr a => by
    rw [sg_sub (fun c => x.1 232 (9 * r + c)) (fun c => T (9 * r + c)), T1.2.1 r hr]
    have i := I.1 r hr
    have w := hw r hr
    have n : ¬ 0 < x.2 231 r := fun h => by
      have : Rb r = true := (eR r).mpr (.inl h)
      rw [this] at a
      exact Bool.noConfusion a
    omega) (fun c hc a => by
    rw [sg_sub (fun r => x.1 232 (9 * r + c)) (fun r => T (9 * r + c)), I.2 c hc]
    have := hf c hc
    omega)
  intro c hc
  cases q : Cb c with
  | true =>
    obtain ⟨r0, p1, p2, C0, p3, p4, p5⟩ := (eC c).mp q
    have := (p4 c hc p5).1
    rw [hl c hc] at this
    exact this
  | false =>
    have a := key.2 c hc (by show (!Cb c) = true; rw [q]; rfl)
    rw [sg_sub (fun r => x.1 232 (9 * r + c)) (fun r => T (9 * r + c)), I.2 c hc] at a
    have := (T1.2.2 c hc).1
    omega
/-- then the most: every row has its own -/
theorem ph2 {s x : gx_S} {R m : Nat} {T : Nat → Int} (cx : cb s x) (K : RK x R m) (F : FXd s x R m) (h01 : C01 s) (T1 : FEr s R m T) (T2 : AGr s R m T) (I : IW s x R m) (hw : ∀ r, r < R → 0 ≤ x.2 231 r) (hl : ∀ c, c < m → x.2 229 c = s.2 228 c) (S : ∀ r, r < R → 0 < x.2 231 r → SK x r R m) : ∀ r, r < R → x.2 231 r = 0 := by
  intro r0 hr0
  refine Classical.byContradiction fun ne => ?_
  have w0 := hw r0 hr0
  obtain ⟨C0, p3, p4⟩ := S r0 hr0 (by omega)
  obtain ⟨Rb, Cb, eC, eR, h1, h2⟩ := cut_T cx K F h01 T1 T2 (C := C0) (Q := fun r => r = r0) (fun c hc p r' hr' q1 q2 d hd q3 => (p4 c hc p).2 r' hr' q1 q2 d hd q3) (fun r hr h d hd q => by
    rw [h] at q
    exact p3 d hd q)
  have key := cut_eq (y := fun r c => T (9 * r + c) - x.1 232 (9 * r + c)) (R := Rb) (C := Cb) (m := R) (n := m) h1 h2 (fun r hr a => by
    rw [sg_sub (fun c => T (9 * r + c)) (fun c => x.1 232 (9 * r + c)), T1.2.1 r hr]
    have i := I.1 r hr
    have w := hw r hr
    omega) (fun c hc a => by
    rw [sg_sub (fun r => T (9 * r + c)) (fun r => x.1 232 (9 * r + c)), I.2 c hc]
    have := (p4 c hc ((eC c).mp a)).1
    have := (T1.2.2 c hc).2
    rw [hl c hc] at *
    omega)
  have a := key.1 r0 hr0 ((eR r0).mpr (.inl rfl))
  rw [sg_sub (fun c => T (9 * r0 + c)) (fun c => x.1 232 (9 * r0 + c)), T1.2.1 r0 hr0] at a
  have i := I.1 r0 hr0
  omega
end
section
/-! THE REFERENCE's BALANCED TABLE: canBe -/
theorem sg_one : ∀ n : Nat, sg (fun _ => 1) n = n
  | 0 => rfl
  | n + 1 => by
    show sg (fun _ => 1) n + 1 = _
    rw [sg_one n]
    rfl
theorem vl_sum (s : gx_S) (f : Nat → Nat) (n : Nat) : 0 ≤ sg (fun k => vl s (f k)) n ∧ sg (fun k => vl s (f k)) n ≤ n := by
  refine ⟨sg_nn fun k _ => by rcases vl_01 s (f k) with h | h <;> omega, ?_⟩
  rw [← sg_one n]
  exact sg_le fun k _ => by
    show vl s (f k) ≤ 1
    rcases vl_01 s (f k) with h | h <;> omega
theorem sl_171a {R m : Nat} {s : gx_S} (K : RB s R m) (W : WB s) (h01 : C01 s) (hv : ∀ r c, r < R → c < m → s.1 233 (9 * r + c) = 1 → s.1 234 (9 * r + c) = 1 → 0 < s.2 225 (9 * r + c)) (h6 : ∀ r, r < R → 0 ≤ s.2 226 r ∧ s.2 226 r ≤ 9) (h7 : ∀ c, c < 9 → (0 ≤ s.2 227 c ∧ s.2 227 c ≤ 9) ∧ 0 ≤ s.2 228 c ∧ s.2 228 c ≤ 9) : ∃ d : gx_S, gm_171 s = ((gm_170 d).bind fun q => gm_171_188 100000 0 q) ∧ cb s d ∧ RK d R m ∧ WB d ∧ (∀ r c, r < R → c < m → d.1 232 (9 * r + c) = vl s (9 * r + c)) ∧ (∀ r, r < R → d.2 231 r = s.2 226 r - sg (fun c => vl s (9 * r + c)) m) ∧ (∀ c, c < m → d.2 230 c = sg (fun r => vl s (9 * r + c)) R) ∧ ∀ c, c < m → d.2 229 c = s.2 227 c := by
  obtain ⟨k1, k2, k3, k4, k5, k6⟩ := id K
  obtain ⟨a, a1, a2, a3, a4⟩ := sl_171_2 k5 100000 0 s (by omega) (by omega) k3
  obtain ⟨b, b1, b2, b3, b4, b5⟩ := sl_171_30 k6 100000 0 a (by omega) (by omega) (by rw [a2]; exact k4)
  have bs : b.1 = s.1 := b2.trans a2
  have cbb : cb s b := ⟨fun k j _ _ => by rw [bs], fun k j h1 h2 h3 => (b3 k j h1 h2).trans (a3 k j h3)⟩
  have J0 : JC b b R m 0 0 := by
    have z : ∀ (x y : Nat) (v : Int), (if ev 0 0 x y then v else 0) = 0 := fun x y v => if_neg (by unfold ev; omega)
    refine ⟨cb_rf b, fun _ => rfl, fun _ => rfl, fun x _ => ?_, fun _ _ => rfl, fun y _ => ?_, fun _ _ => rfl, fun x y _ _ h => absurd h (by unfold ev; omega), fun j hj => .inl rfl⟩
    · rw [sg_0 fun y _ => z x y _]
      omega
    · rw [sg_0 fun x _ => z x y _]
      omega
  obtain ⟨d, d1, j1, j2, j3, j4, j5, j6, j7, j8, j9⟩ := sl_171_65 (s0 := b) k5 k6 (by rw [bs]; exact k3) (by rw [bs]; exact k4) (fun j hj => by rw [bs]; exact h01 j hj) 100000 0 b (by omega) (by omega) J0
  have vb : ∀ j, vl b j = vl s j := fun j => vl_cb cbb j
  have io : ∀ (x y : Nat) (v : Int), x < R → (if ev R 0 x y then v else 0) = v := fun x y v h => if_pos (.inl h)
  have cd := cb_tr cbb j1
  have q5 : ∀ r c, r < R → c < m → d.1 232 (9 * r + c) = vl s (9 * r + c) := fun r c hr hc => by
    rw [j8 r c hr hc (.inl hr), vb]
  have q6 : ∀ r, r < R → d.2 231 r = s.2 226 r - sg (fun c => vl s (9 * r + c)) m := fun r hr => by
    rw [j4 r hr, b3 231 r (by decide) (by decide), a4 r, if_pos (by omega), sg_eq (g := fun c => vl s (9 * r + c)) fun c _ => by rw [io r c _ hr, vb]]
  have q7 : ∀ c, c < m → d.2 230 c = sg (fun r => vl s (9 * r + c)) R := fun c hc => by
    rw [j6 c hc, b5 c, if_pos (by omega), sg_eq (g := fun r => vl s (9 * r + c)) fun r hr => by rw [io r c _ hr, vb]]
    omega
  have q8 : ∀ c, c < m → d.2 229 c = s.2 227 c := fun c hc => by
    rw [j3, b4 c, if_pos (by omega), a3 227 c (by decide)]
  refine ⟨d, ?_, cd, RB_RK ⟨fun j hj => ⟨?_, ?_, ?_⟩, fun c hc => ⟨?_, ?_⟩, ?_, ?_, k5, k6⟩ fun r c hr hc h => ?_, fun k hk => ?_, q5, q6, q7, q8⟩
  · unfold gm_171
    have a1 : gm_171_2 100000 0 s = _ := a1
    have b1 : gm_171_30 100000 0 a = _ := b1
    have d1 : gm_171_65 100000 0 b = _ := d1
    rw [a1, b1, d1]
  · rcases j9 j hj with h | h
    · rw [h, bs]
      exact (k1 j hj).1
    · exact h
  · rw [cd.1 233 j (by omega) (by omega)]
    exact (k1 j hj).2.1
  · rw [cd.2 225 j (by omega) (by omega) (by omega)]
    exact (k1 j hj).2.2
  · rw [j2, bs]
    exact (k2 c hc).1
  · have x := (k2 c hc).2
    have y := h7 c hc
    by_cases q : c < m
    · rw [q8 c q, q7 c q]
      have z := vl_sum s (fun r => 9 * r + c) R
      have z : 0 ≤ sg (fun r => vl s (9 * r + c)) R ∧ sg (fun r => vl s (9 * r + c)) R ≤ R := z
      omega
    · rw [j3, b4 c, if_neg (by omega), a3 229 c (by decide), j7 c (by omega), b5 c, if_neg (by omega), a3 230 c (by decide)]
      exact x
  · rw [cd.1 215 17 (by omega) (by omega)]
    exact k3
  · rw [cd.1 215 18 (by omega) (by omega)]
    exact k4
  · rw [q5 r c hr hc] at h
    rw [cd.2 225 _ (by omega) (by omega) (by omega)]
    have w := h01 (9 * r + c) (by omega)
    unfold vl at h
    by_cases z3 : s.1 233 (9 * r + c) = 0
    · rw [if_pos z3] at h
      exact absurd h (by decide)
    · rw [if_neg z3] at h
      by_cases z4 : s.1 234 (9 * r + c) = 0
      · rw [if_pos z4] at h
        exact absurd h (by decide)
      · exact hv r c hr hc (w.1.resolve_left z3) (w.2.resolve_left z4)
  · by_cases q : k < R
    · rw [q6 k q]
      have z := vl_sum s (fun c => 9 * k + c) m
      have z : 0 ≤ sg (fun c => vl s (9 * k + c)) m ∧ sg (fun c => vl s (9 * k + c)) m ≤ m := z
      have y := h6 k q
      omega
    · rw [j5 k (by omega), b3 231 k (by decide) (by decide), a4 k, if_neg (by omega)]
      exact W k hk
theorem sp_171 {R m : Nat} {s : gx_S} (K : RB s R m) (W : WB s) (h01 : C01 s) (hv : ∀ r c, r < R → c < m → s.1 233 (9 * r + c) = 1 → s.1 234 (9 * r + c) = 1 → 0 < s.2 225 (9 * r + c)) (h6 : ∀ r, r < R → 0 ≤ s.2 226 r ∧ s.2 226 r ≤ 9) (h7 : ∀ c, c < 9 → (0 ≤ s.2 227 c ∧ s.2 227 c ≤ 9) ∧ 0 ≤ s.2 228 c ∧ s.2 228 c ≤ 9) : ∃ (v : Bool) (u : gx_S), gm_171 s = some (v, u) ∧ cb s u ∧ RB u R m ∧ WB u ∧ (v = true ↔ ∃ T, FEr s R m T ∧ AGr s R m T) := by
  obtain ⟨d, d1, d2, d3, d4, d5, d6, d7, d8⟩ := sl_171a K W h01 hv h6 h7
  have R8 : R ≤ 8 := K.2.2.2.2.1
  have m9 : m ≤ 9 := K.2.2.2.2.2
  obtain ⟨e, e1, e2, e3, e4⟩ := sp_170 d3 d4
  have ce := cb_tr d2 (cb_GW e2)
  have We := GW_WB e2 d4
  have Id : IW s d R m := ⟨fun r hr => by
    rw [sg_eq (g := fun c => vl s (9 * r + c)) fun c hc => d5 r c hr hc, d6 r hr]
    omega, fun c hc => by rw [sg_eq (g := fun r => vl s (9 * r + c)) fun r hr => d5 r c hr hc, d7 c hc]⟩
  have Ie := IW_GW Id e2 R8 m9 d3.2.2.1 d3.2.2.2.1
  have Fe := FXd_GW (fun r c hr hc _ => d5 r c hr hc) d2 e2 R8 m9 d3.2.2.1 d3.2.2.2.1
  have le : ∀ T, FEr s R m T → AGr s R m T → ∀ r c, r < R → c < m → vl s (9 * r + c) ≤ T (9 * r + c) := fun T T1 T2 r c hr hc => by
    have t1 := (T1.1 r c hr hc).1
    rcases (h01 (9 * r + c) (by omega)).1 with z | z
    · rw [show vl s (9 * r + c) = 0 from if_pos z]
      omega
    · rw [AG_vl h01 R8 m9 T2 hr hc z]
      omega
  have ew : ∀ T, FEr s R m T → AGr s R m T → ∀ r, r < R → 0 ≤ e.2 231 r := fun T T1 T2 r hr => by
    refine (e2.2.2.2.2.2.1 r (by omega)).2.2 ?_
    rw [d6 r hr, ← T1.2.1 r hr]
    have := sg_le (f := fun c => vl s (9 * r + c)) (g := fun c => T (9 * r + c)) (n := m) fun c hc => le T T1 T2 r c hr hc
    omega
  have ec : ∀ T, FEr s R m T → AGr s R m T → ∀ c, c < m → s.2 227 c ≤ e.2 230 c ∧ e.2 230 c ≤ s.2 228 c := fun T T1 T2 => by
    have hf : ∀ c, c < m → e.2 230 c ≤ sg (fun r => T (9 * r + c)) R := fun c hc => by
      have a := (e2.2.2.2.2.2.2 c (by omega)).2
      rw [d7 c hc, d8 c hc] at a
      have b := sg_le (f := fun r => vl s (9 * r + c)) (g := fun r => T (9 * r + c)) (n := R) fun r hr => le T T1 T2 r c hr hc
      have t := (T1.2.2 c hc).1
      omega
    have a := ph1 ce e3 Fe h01 T1 T2 Ie (ew T T1 T2) (fun c hc => by rw [e2.2.1 229 c (by decide) (by decide), d8 c hc]) hf e4
    intro c hc
    have t := (T1.2.2 c hc).2
    have := hf c hc
    exact ⟨a c hc, by omega⟩
  have E := e3
  obtain ⟨k1, k2, k3, k4, k5, k6⟩ := E
  obtain ⟨f, f1, f2, f3⟩ := sl_171_188 m9 100000 0 e (by omega) (by omega) k4 fun j hj => by
    have a := k2 j hj
    have b := h7 j hj
    rw [ce.2 227 j (by decide) (by decide) (by decide), ce.2 228 j (by decide) (by decide) (by decide)]
    unfold i64
    omega
  have e7 : ∀ j, e.2 227 j = s.2 227 j := fun j => ce.2 227 j (by decide) (by decide) (by decide)
  have e8 : ∀ j, e.2 228 j = s.2 228 j := fun j => ce.2 228 j (by decide) (by decide) (by decide)
  have cf : cb s f := cb_tr ce ⟨fun k j _ _ => by rw [f1], fun k j h _ _ => f2 k j h⟩
  have Wf : WB f := fun k hk => by
    rw [f2 231 k (by decide)]
    exact We k hk
  rw [d1, e1, Option.bind_some]
  rcases f3 with ⟨⟨j, p1, p2⟩, p3, p4⟩ | ⟨p1, p2, p3⟩
  · have p4 : gm_171_188 100000 0 e = _ := p4
    rw [p4]
    refine ⟨false, f, rfl, cf, ⟨fun j hj => ?_, fun c hc => ?_, by rw [f1]; exact k3, by rw [f1]; exact k4, R8, m9⟩, Wf, fun h => Bool.noConfusion h, fun ⟨T, T1, T2⟩ => ?_⟩
    · rw [f1, f2 225 j (by decide)]
      exact ⟨(k1 j hj).1, (k1 j hj).2.1, (k1 j hj).2.2.1⟩
    · rw [f1, f2 230 c (by decide)]
      have a := k2 c hc
      have b := h7 c hc
      have x := p3 c
      rw [e8] at x
      refine ⟨a.1, ?_, ?_, a.2.2.2⟩ <;> rcases x with x | ⟨_, x⟩ <;> omega
    · have a := ec T T1 T2 j p1
      rw [e7, e8] at p2
      exact absurd a p2
  · have p3 : gm_171_188 100000 0 e = _ := p3
    rw [p3]
    have Kf : RK f R m := by
      refine ⟨fun j hj => ?_, fun c hc => ?_, by rw [f1]; exact k3, by rw [f1]; exact k4, R8, m9⟩
      · rw [f1, f2 225 j (by decide)]
        exact k1 j hj
      · rw [f1, f2 230 c (by decide), p2 c, e8]
        have a := k2 c hc
        have b := h7 c hc
        refine ⟨a.1, ?_, ?_, a.2.2.2⟩ <;> split <;> omega
    have If : IW s f R m := ⟨fun r hr => by rw [f1, f2 231 r (by decide)]; exact Ie.1 r hr, fun c hc => by rw [f1, f2 230 c (by decide)]; exact Ie.2 c hc⟩
    have Ff : FXd s f R m := fun r c hr hc h => by rw [f1]; exact Fe r c hr hc h
    obtain ⟨g, g1, g2, g3, g4⟩ := sp_170 Kf Wf
    have cg := cb_tr cf (cb_GW g2)
    have Wg := GW_WB g2 Wf
    have Ig := IW_GW If g2 R8 m9 Kf.2.2.1 Kf.2.2.2.1
    have Fg := FXd_GW Ff cf g2 R8 m9 Kf.2.2.1 Kf.2.2.2.1
    obtain ⟨v, v1, v2⟩ := sl_171_254 R8 g3.2.2.1 Wg 100000 0 (by omega) (by omega)
    have v1 : gm_171_254 100000 0 g = _ := v1
    rw [g1, Option.bind_some, v1]
    refine ⟨v, g, rfl, cg, RK_RB g3, Wg, fun h => ⟨g.1 232, ⟨fun r c hr hc => ⟨(g3.1 _ (by omega)).1, fun h1 => ?_⟩, fun r hr => ?_, fun c hc => ?_⟩, fun r c hr hc h1 => ?_⟩, fun ⟨T, T1, T2⟩ => ?_⟩
    · have a := (g3.1 (9 * r + c) (by omega)).2.2.2 h1
      rw [cg.2 225 _ (by decide) (by decide) (by decide)] at a
      exact a (by rw [g3.2.2.1]; omega) (by rw [g3.2.2.2.1]; omega)
    · have a := Ig.1 r hr
      rw [v2.mp h r (by omega) hr] at a
      omega
    · have a := Ig.2 c hc
      have b := g2.2.2.2.2.2.2 c (by omega)
      have x := p1 c (by omega) hc
      rw [f2 230 c (by decide), p2 c, if_pos (by omega)] at b
      rw [e7, e8] at x
      rw [e8] at b
      show _ ≤ sg (fun r => g.1 232 (9 * r + c)) R ∧ sg (fun r => g.1 232 (9 * r + c)) R ≤ _
      omega
    · rw [Fg r c hr hc h1]
      unfold vl
      rw [if_neg (by rw [h1]; decide)]
      rcases (h01 (9 * r + c) (by omega)).2 with q | q
      · rw [if_pos q, q]
      · rw [if_neg (by rw [q]; decide), q]
    · refine v2.mpr fun r _ hr => ph2 cg g3 Fg h01 T1 T2 Ig (fun r hr => ?_) (fun c hc => ?_) g4 r hr
      · refine (g2.2.2.2.2.2.1 r (by omega)).2.2 ?_
        rw [f2 231 r (by decide)]
        exact ew T T1 T2 r hr
      · rw [g2.2.1 229 c (by decide) (by decide), p2 c, if_pos (by omega), e8]
end
section
/-! THE REFERENCE's BALANCED TABLE: a column's least and most -/
theorem sl_164 : ∀ (k n a b : Nat) (s : gx_S), b < 2 ^ k → 2 * k + 1 < n → a ≤ 9000000000000000000 → b ≤ 9000000000000000000 → gm_164_6 n a b s = some (((Nat.gcd a b : Nat) : Int), s) := by
  intro k
  induction k with
  | zero =>
    intro n a b s hb hn ha hb9
    have : b = 0 := by
      have : (2 : Nat) ^ 0 = 1 := rfl
      omega
    subst this
    obtain ⟨n, rfl⟩ : ∃ m, n = m + 1 := ⟨n - 1, by omega⟩
    rw [gm_164_6, Nat.gcd_zero_right]
    simp (disch := omega) only [if_pos, if_neg]
  | succ k ih =>
    intro n a b s hb hn ha hb9
    obtain ⟨n, rfl⟩ : ∃ m, n = m + 2 := ⟨n - 2, by omega⟩
    rw [gm_164_6]
    by_cases b0 : b = 0
    · subst b0
      rw [Nat.gcd_zero_right]
      simp (disch := omega) only [if_pos, if_neg]
    · have e1 : (a : Int) % (b : Int) = ((a % b : Nat) : Int) := rfl
      have m1 := Nat.mod_lt a (Nat.pos_of_ne_zero b0)
      have g1 : Nat.gcd a b = Nat.gcd b (a % b) := by rw [Nat.gcd_comm a b, Nat.gcd_rec b a, Nat.gcd_comm]
      rw [e1, g1]
      simp (disch := omega) only [if_pos, if_neg]
      generalize a % b = c at *
      rw [gm_164_6]
      by_cases c0 : c = 0
      · subst c0
        rw [Nat.gcd_zero_right]
        simp (disch := omega) only [if_pos, if_neg]
      · have e2 : (b : Int) % (c : Int) = ((b % c : Nat) : Int) := rfl
        have m2 := Nat.mod_lt b (Nat.pos_of_ne_zero c0)
        have g2 : Nat.gcd b c = Nat.gcd c (b % c) := by rw [Nat.gcd_comm b c, Nat.gcd_rec c b, Nat.gcd_comm]
        have h := mod_half (Nat.pos_of_ne_zero c0) m1 hb
        rw [e2, g2]
        simp (disch := omega) only [if_pos, if_neg]
        exact ih n c (b % c) s h (by omega) (by omega) (by omega)
theorem sp_164 (s : gx_S) {a b : Nat} (ha : a ≤ 9000000000000000000) (hb : b < 1099511627776) : gm_164 a b s = some (((Nat.gcd a b : Nat) : Int), s) := sl_164 40 100000 a b s (by omega) (by omega) ha (by omega)
/-- a fraction is added: numerator 215 29, denominator 215 30 -/
theorem sp_165 {s : gx_S} {x : Int} {d t : Nat} (h : s.2 215 30 = d) (hd : 0 < d) (ht : 0 < t) (ht' : t ≤ 1000000) (hL : Nat.lcm d t ≤ 20000000000000000) : gm_165 x t s = some (gw2 (gw2 s 215 29 (s.2 215 29 * (((Nat.lcm d t : Nat) : Int) / (d : Int)) + x * (((Nat.lcm d t : Nat) : Int) / (t : Int)))) 215 30 ((Nat.lcm d t : Nat) : Int)) := by
  have l0 := Nat.lcm_pos hd ht
  have d1 := Nat.le_of_dvd l0 (Nat.dvd_lcm_left d t)
  have g0 : 0 < Nat.gcd d t := Nat.gcd_pos_of_pos_right _ ht
  have g1 : Nat.gcd d t ≤ t := Nat.gcd_le_right _ ht
  have e : (d : Int) / ((Nat.gcd d t : Nat) : Int) * (t : Int) = ((Nat.lcm d t : Nat) : Int) := by
    rw [lcm_div d t hd]
    rfl
  unfold gm_165
  rw [h, sp_164 s (by omega) (by omega), Option.bind_some]
  simp only [h, e]
  generalize Nat.lcm d t = L at *
  generalize Nat.gcd d t = g at *
  rw [if_pos (by omega), if_pos (by omega), if_pos (by omega)]
/-- a row's share of a column over the common denominator -/
def rr (s : gx_S) (c : Nat) (K : Int) (r : Nat) : Int := if s.2 225 (9 * r + c) ≤ 0 then 0 else s.2 225 (9 * r + c) * (K / s.1 223 r)
theorem rr_o {s u : gx_S} (h1 : u.1 = s.1) (h2 : ∀ j, u.2 225 j = s.2 225 j) (c : Nat) (K : Int) : rr u c K = rr s c K := by
  funext r
  unfold rr
  rw [h1, h2]
theorem add_fr {num S x : Int} {d t K : Nat} (hd : 0 < d) (ht : 0 < t) (hdK : d ∣ K) (htK : t ∣ K) (e : num * (K : Int) = (d : Int) * S) : Nat.lcm d t ∣ K ∧ (num * (((Nat.lcm d t : Nat) : Int) / (d : Int)) + x * (((Nat.lcm d t : Nat) : Int) / (t : Int))) * (K : Int) = ((Nat.lcm d t : Nat) : Int) * (S + x * ((K : Int) / (t : Int))) := by
  refine ⟨Nat.lcm_dvd hdK htK, ?_⟩
  obtain ⟨p, hp⟩ := Nat.dvd_lcm_left d t
  obtain ⟨q, hq⟩ := Nat.dvd_lcm_right d t
  obtain ⟨k, hk⟩ := htK
  have e1 : ((Nat.lcm d t : Nat) : Int) / (d : Int) = p := by
    rw [hp]
    show (((d * p) / d : Nat) : Int) = p
    rw [Nat.mul_div_cancel_left _ hd]
  have e2 : ((Nat.lcm d t : Nat) : Int) / (t : Int) = q := by
    rw [hq]
    show (((t * q) / t : Nat) : Int) = q
    rw [Nat.mul_div_cancel_left _ ht]
  have e3 : (K : Int) / (t : Int) = k := by
    rw [hk]
    show (((t * k) / t : Nat) : Int) = k
    rw [Nat.mul_div_cancel_left _ ht]
  have a1 : ((Nat.lcm d t : Nat) : Int) = d * p := by rw [hp]; exact Int.natCast_mul d p
  have a2 : ((Nat.lcm d t : Nat) : Int) = t * q := by rw [hq]; exact Int.natCast_mul t q
  have a3 : (K : Int) = t * k := by rw [hk]; exact Int.natCast_mul t k
  rw [e1, e2, e3]
  calc (num * (p : Int) + x * (q : Int)) * (K : Int) = num * (K : Int) * p + x * (q * K) := by rw [Int.add_mul, Int.mul_right_comm, Int.mul_assoc x]
    _ = (d : Int) * S * p + x * (q * (t * k)) := by rw [e, ← a3]
    _ = (d : Int) * p * S + (t * q : Int) * (x * k) := by
      rw [Int.mul_right_comm (d : Int) S p]
      congr 1
      rw [← Int.mul_assoc (q : Int), Int.mul_comm (q : Int) t, ← Int.mul_assoc x, Int.mul_comm x, Int.mul_assoc]
    _ = ((Nat.lcm d t : Nat) : Int) * (S + x * k) := by rw [← a1, ← a2, Int.mul_add]
theorem fr_div {num S : Int} {d K : Nat} (hd : 0 < d) (hK : 0 < K) (e : num * (K : Int) = (d : Int) * S) : num / (d : Int) = S / (K : Int) ∧ (num % (d : Int) = 0 ↔ S % (K : Int) = 0) := by
  have d0 : (0 : Int) < d := by omega
  have K0 : (0 : Int) < K := by omega
  have e' : num * (K : Int) = S * (d : Int) := by rw [e, Int.mul_comm]
  have a : num / (d : Int) = S / (K : Int) := by
    have a1 := Int.mul_ediv_mul_of_pos_left num (d : Int) K0
    have a2 := Int.mul_ediv_mul_of_pos_left S (K : Int) d0
    rw [← a1, ← a2, e', Int.mul_comm (d : Int) (K : Int)]
  refine ⟨a, ?_⟩
  have m1 := Int.mul_emod_mul_of_pos num (d : Int) K0
  have m2 := Int.mul_emod_mul_of_pos S (K : Int) d0
  have m3 : (K : Int) * (num % (d : Int)) = (d : Int) * (S % (K : Int)) := by
    rw [← m1, ← m2, Int.mul_comm (K : Int) num, e', Int.mul_comm S (d : Int), Int.mul_comm (K : Int) (d : Int)]
  constructor
  · intro h
    rw [h, Int.mul_zero] at m3
    rcases Int.mul_eq_zero.mp m3.symm with x | x
    · omega
    · exact x
  · intro h
    rw [h, Int.mul_zero] at m3
    rcases Int.mul_eq_zero.mp m3 with x | x
    · omega
    · exact x
end
section
/-! THE REFERENCE's BALANCED TABLE: laysColumn -/
/-- the row's rest of the column is within its total, which divides K -/
def RT (s : gx_S) (R c K : Nat) : Prop := ∀ r, r < R → 0 ≤ s.2 225 (9 * r + c) ∧ s.2 225 (9 * r + c) ≤ s.1 223 r ∧ s.1 223 r ≤ 1000000 ∧ (0 < s.1 223 r → (s.1 223 r).toNat ∣ K)
theorem rr_B {s : gx_S} {R c K : Nat} (h : RT s R c K) : ∀ r, r < R → 0 ≤ rr s c K r ∧ rr s c K r ≤ K := fun r hr => by
  obtain ⟨h1, h2, h3, h4⟩ := h r hr
  unfold rr
  by_cases z : s.2 225 (9 * r + c) ≤ 0
  · rw [if_pos z]
    omega
  · rw [if_neg z]
    obtain ⟨k, hk⟩ := h4 (by omega)
    have t0 : 0 < (s.1 223 r).toNat := by omega
    have te : s.1 223 r = ((s.1 223 r).toNat : Nat) := by omega
    have e3 : (K : Int) / s.1 223 r = k := by
      rw [te, hk]
      show ((((s.1 223 r).toNat * k) / (s.1 223 r).toNat : Nat) : Int) = k
      rw [Nat.mul_div_cancel_left _ t0]
    have e4 : (K : Int) = s.1 223 r * k := by
      rw [te, hk]
      exact Int.natCast_mul _ k
    rw [e3, e4]
    refine ⟨Int.mul_nonneg h1 (by omega), Int.mul_le_mul_of_nonneg_right h2 (by omega)⟩
theorem sl_166 {R c K : Nat} (R8 : R ≤ 8) (hc : c < 9) (hK : 0 < K ∧ K ≤ 20000000000000000) : ∀ (n j : Nat) (s : gx_S) (d : Nat), R < n + j → j ≤ R → s.1 215 17 = R → s.2 215 30 = d → 0 < d → d ∣ K → s.2 215 29 * (K : Int) = (d : Int) * sg (rr s c K) j → RT s R c K → ∃ u : gx_S, gm_166_12 n c j s = some u ∧ u.1 = s.1 ∧ (∀ k i, ¬ (k = 215 ∧ (i = 29 ∨ i = 30)) → ¬ (k = 227 ∧ i = c) → ¬ (k = 228 ∧ i = c) → u.2 k i = s.2 k i) ∧ u.2 227 c = sg (rr s c K) R / K ∧ u.2 228 c = sg (rr s c K) R / K + if sg (rr s c K) R % K = 0 then 0 else 1 := by
  intro n
  induction n with
  | zero => intro j s d h; omega
  | succ n ih =>
    intro j s d h hj e17 e30 hd hdK e H
    have ce : ((j : Int) + 1) = ((j + 1 : Nat) : Int) := rfl
    have i5 : ((c : Int)).toNat = c := by omega
    have dK := Nat.le_of_dvd hK.1 hdK
    rw [gm_166_12, e17, if_pos (by omega), if_pos (by omega)]
    by_cases q : j = R
    · rw [q] at e
      have n0 : 0 ≤ sg (rr s c K) R := sg_nn fun k hk => (rr_B H k hk).1
      have n1 : sg (rr s c K) R ≤ 8 * (K : Int) := by
        have a := sg_le (f := rr s c K) (g := fun _ => (K : Int) * 1) (n := R) fun k hk => by
          show rr s c K k ≤ (K : Int) * 1
          have := (rr_B H k hk).2
          omega
        rw [sg_mul, sg_one] at a
        have b : (K : Int) * (R : Int) ≤ K * 8 := Int.mul_le_mul_of_nonneg_left (by omega) (by omega)
        omega
      obtain ⟨f1, f2⟩ := fr_div hd hK.1 e
      have x0 : 0 ≤ s.2 215 29 := by
        refine Int.nonneg_of_mul_nonneg_left (b := (K : Int)) ?_ (by omega)
        rw [e]
        exact Int.mul_nonneg (by omega) n0
      have x1 : s.2 215 29 ≤ 8 * d := by
        refine Int.le_of_mul_le_mul_right (a := (K : Int)) ?_ (by omega)
        rw [e]
        have : (d : Int) * sg (rr s c K) R ≤ d * (8 * K) := Int.mul_le_mul_of_nonneg_left n1 (by omega)
        calc (d : Int) * sg (rr s c K) R ≤ d * (8 * K) := this
          _ = 8 * d * K := by rw [← Int.mul_assoc, Int.mul_comm (d : Int) 8]
      have m0 := Int.emod_nonneg (s.2 215 29) (b := (d : Int)) (by omega)
      have m1 := Int.emod_lt_of_pos (s.2 215 29) (b := (d : Int)) (by omega)
      have y29 : ∀ v, (gw2 s 227 c v).2 215 29 = s.2 215 29 := fun v => by rw [gw2_2, if_neg (by omega)]
      have y30 : ∀ v, (gw2 s 227 c v).2 215 30 = d := fun v => by rw [gw2_2, if_neg (by omega), e30]
      have y27 : ∀ v, (gw2 s 227 c v).2 227 c = v := fun v => by rw [gw2_2, if_pos ⟨rfl, rfl⟩]
      rw [if_pos (by omega), e30, if_pos (by omega), if_pos (by omega), i5, y29, y30, if_pos (by omega), if_pos (by omega), y27]
      have fin : ∀ v : Int, v = 0 ∨ v = 1 → gm_166_107 c (s.2 215 29 / (d : Int)) v (gw2 s 227 c (s.2 215 29 / (d : Int))) = some (gw2 (gw2 s 227 c (s.2 215 29 / (d : Int))) 228 c (s.2 215 29 / (d : Int) + v)) := fun v hv => by
        unfold gm_166_107
        rw [sp_131 hv, Option.bind_some, if_pos (show -2147483648 ≤ v ∧ v ≤ 2147483647 by omega), if_pos (by omega), i5]
      have out : ∀ v : Int, (v = if sg (rr s c K) R % K = 0 then 0 else 1) → ∃ u : gx_S, some (gw2 (gw2 s 227 c (s.2 215 29 / (d : Int))) 228 c (s.2 215 29 / (d : Int) + v)) = some u ∧ u.1 = s.1 ∧ (∀ k i, ¬ (k = 215 ∧ (i = 29 ∨ i = 30)) → ¬ (k = 227 ∧ i = c) → ¬ (k = 228 ∧ i = c) → u.2 k i = s.2 k i) ∧ u.2 227 c = sg (rr s c K) R / K ∧ u.2 228 c = sg (rr s c K) R / K + if sg (rr s c K) R % K = 0 then 0 else 1 := fun v hv => by
        refine ⟨_, rfl, rfl, fun k i h1 h2 h3 => ?_, ?_, ?_⟩
        · rw [gw2_2, if_neg h3, gw2_2, if_neg h2]
        · rw [gw2_2, if_neg (by omega), gw2_2, if_pos ⟨rfl, rfl⟩, f1]
        · rw [gw2_2, if_pos ⟨rfl, rfl⟩, f1, hv]
      by_cases z : s.2 215 29 % (d : Int) ≤ 0
      · rw [if_pos z, fin 0 (.inl rfl)]
        exact out 0 (by rw [if_pos (f2.mp (by omega))])
      · rw [if_neg z, fin 1 (.inr rfl)]
        exact out 1 (by rw [if_neg (fun h => z (by rw [f2.mpr h]; exact Int.le_refl 0))])
    · have i1 : ((9 * (j : Int) + (c : Int))).toNat = 9 * j + c := by omega
      have i6 : ((j : Int)).toNat = j := by omega
      have hj' : j < R := by omega
      obtain ⟨h1, h2, h3, h4⟩ := H j hj'
      have h72 : 0 ≤ 9 * (j : Int) + (c : Int) ∧ 9 * (j : Int) + (c : Int) < 72 := by omega
      have gl : -9223372036854775808 ≤ s.2 225 (9 * j + c) ∧ s.2 225 (9 * j + c) ≤ 9223372036854775807 := by omega
      have gi : -2147483648 ≤ s.1 223 j ∧ s.1 223 j ≤ 2147483647 := by omega
      have h8 : 0 ≤ (j : Int) ∧ (j : Int) < 8 := by omega
      rw [if_neg (by omega), sp_160, Option.bind_some, if_pos h72]
      show ∃ u : gx_S, (if (-9223372036854775808 ≤ s.2 225 (9 * (j : Int) + (c : Int)).toNat ∧ s.2 225 (9 * (j : Int) + (c : Int)).toNat ≤ 9223372036854775807) then (if s.2 225 (9 * (j : Int) + (c : Int)).toNat ≤ 0 then _ else _) else _) = some u ∧ _
      rw [i1, if_pos gl]
      have sgs : sg (rr s c K) (j + 1) = sg (rr s c K) j + rr s c K j := rfl
      by_cases z : s.2 225 (9 * j + c) ≤ 0
      · rw [if_pos z]
        unfold gm_166_56
        rw [ce]
        exact ih (j + 1) s d (by omega) (by omega) e17 e30 hd hdK (by
          rw [sgs, show rr s c K j = 0 from if_pos z, Int.add_zero]
          exact e) H
      · rw [if_neg z]
        have t0 : 0 < (s.1 223 j).toNat := by omega
        have te : s.1 223 j = ((s.1 223 j).toNat : Nat) := by omega
        obtain ⟨L1, L2⟩ := add_fr (x := s.2 225 (9 * j + c)) hd t0 hdK (h4 (by omega)) e
        have L3 := Nat.le_of_dvd hK.1 L1
        have c65 := sp_165 (s := s) (x := s.2 225 (9 * j + c)) e30 hd t0 (by omega) (by omega)
        show ∃ u : gx_S, ((gm_160 j c s).bind _) = some u ∧ _
        rw [sp_160, Option.bind_some, if_pos h72, if_pos h8]
        show ∃ u : gx_S, (if (-2147483648 ≤ s.1 223 (j : Int).toNat ∧ s.1 223 (j : Int).toNat ≤ 2147483647) then ((gm_165 (s.2 225 (9 * (j : Int) + (c : Int)).toNat) (s.1 223 (j : Int).toNat) s).bind _) else _) = some u ∧ _
        rw [i1, i6, if_pos gi, te, c65, Option.bind_some]
        have L0 := Nat.lcm_pos hd t0
        generalize Nat.lcm d (s.1 223 j).toNat = L at *
        obtain ⟨t, ht⟩ : ∃ t : gx_S, t = gw2 (gw2 s 215 29 (s.2 215 29 * ((L : Int) / (d : Int)) + s.2 225 (9 * j + c) * ((L : Int) / (((s.1 223 j).toNat : Nat) : Int)))) 215 30 (L : Int) := ⟨_, rfl⟩
        rw [← ht]
        unfold gm_166_56
        rw [ce]
        have t1 : t.1 = s.1 := by rw [ht]; rfl
        have t2 : ∀ k i, ¬ (k = 215 ∧ (i = 29 ∨ i = 30)) → t.2 k i = s.2 k i := fun k i h => by
          rw [ht, gw2_2, if_neg (by omega), gw2_2, if_neg (by omega)]
        have t25 : ∀ i, t.2 225 i = s.2 225 i := fun i => t2 225 i (by omega)
        have tr := rr_o t1 t25 c (K : Int)
        have t29 : t.2 215 29 = s.2 215 29 * ((L : Int) / (d : Int)) + s.2 225 (9 * j + c) * ((L : Int) / (((s.1 223 j).toNat : Nat) : Int)) := by
          rw [ht, gw2_2, if_neg (by omega), gw2_2, if_pos ⟨rfl, rfl⟩]
        have t30 : t.2 215 30 = (L : Int) := by
          rw [ht, gw2_2, if_pos ⟨rfl, rfl⟩]
        obtain ⟨u, u1, u2, u3, u4⟩ := ih (j + 1) t L (by omega) (by omega) (by rw [t1]; exact e17) t30 L0 L1 (by
          rw [tr, sgs, t29, L2, show rr s c K j = s.2 225 (9 * j + c) * ((K : Int) / s.1 223 j) from if_neg z, ← te]) (fun r hr => by
          rw [t1, t25]
          exact H r hr)
        rw [tr] at u4
        exact ⟨u, u1, u2.trans t1, fun k i x1 x2 x3 => (u3 k i x1 x2 x3).trans (t2 k i x1), u4⟩
theorem sp_166 {R c K : Nat} {s : gx_S} (R8 : R ≤ 8) (hc : c < 9) (hK : 0 < K ∧ K ≤ 20000000000000000) (e17 : s.1 215 17 = R) (H : RT s R c K) : ∃ u : gx_S, gm_166 c s = some u ∧ u.1 = s.1 ∧ (∀ k i, ¬ (k = 215 ∧ (i = 29 ∨ i = 30)) → ¬ (k = 227 ∧ i = c) → ¬ (k = 228 ∧ i = c) → u.2 k i = s.2 k i) ∧ u.2 227 c = sg (rr s c K) R / K ∧ u.2 228 c = sg (rr s c K) R / K + if sg (rr s c K) R % K = 0 then 0 else 1 := by
  have t2 : ∀ k i, ¬ (k = 215 ∧ (i = 29 ∨ i = 30)) → (gw2 (gw2 s 215 29 0) 215 30 1).2 k i = s.2 k i := fun k i h => by
    rw [gw2_2, if_neg (by omega), gw2_2, if_neg (by omega)]
  have t25 : ∀ i, (gw2 (gw2 s 215 29 0) 215 30 1).2 225 i = s.2 225 i := fun i => t2 225 i (by omega)
  have tr := rr_o (s := s) (u := gw2 (gw2 s 215 29 0) 215 30 1) rfl t25 c (K : Int)
  obtain ⟨u, u1, u2, u3, u4⟩ := sl_166 R8 hc hK 100000 0 (gw2 (gw2 s 215 29 0) 215 30 1) 1 (by omega) (by omega) e17 (by rw [gw2_2, if_pos ⟨rfl, rfl⟩]; rfl) (by omega) (Nat.one_dvd K) (by
    rw [gw2_2, if_neg (by omega), gw2_2, if_pos ⟨rfl, rfl⟩]
    simp only [sg]
    omega) (fun r hr => by
    rw [t25]
    exact H r hr)
  rw [tr] at u4
  exact ⟨u, u1, u2, fun k i x1 x2 x3 => (u3 k i x1 x2 x3).trans (t2 k i x1), u4⟩
end
section
/-! THE REFERENCE's BALANCED TABLE: balances, entry by entry -/
/-- the entry's value is told -/
def stv (s : gx_S) (r c : Nat) (v : Int) : gx_S := gw2 (gw1 s 234 (9 * r + c) v) 224 (9 * r + c) (s.2 224 (9 * r + c) + v)
/-- the entry is fixed -/
def mkf (s : gx_S) (r c : Nat) (v : Int) : gx_S := gw1 (gw1 s 233 (9 * r + c) 1) 234 (9 * r + c) v
theorem se_172_146 (k : Int → Int → gx_S → Option gx_S) {s : gx_S} {r c : Nat} {v : Int} (hr : r < 8) (hc : c < 9) (hv : v = 0 ∨ v = 1) : gm_172_146 k r c (9 * (r : Int) + (c : Int)) v s = k r ((c + 1 : Nat) : Int) (stv s r c v) := by
  have i1 : ((9 * (r : Int) + (c : Int))).toNat = 9 * r + c := by omega
  have ce : ((c : Int) + 1) = ((c + 1 : Nat) : Int) := rfl
  have gv : gn2 v = v := by rcases hv with h | h <;> rw [h] <;> decide
  have h72 : 0 ≤ 9 * (r : Int) + (c : Int) ∧ 9 * (r : Int) + (c : Int) < 72 := by omega
  have hv' : -2147483648 ≤ v ∧ v ≤ 2147483647 := by omega
  have x1 : (gw1 s 234 (9 * r + c) v).1 234 (9 * r + c) = v := by rw [gw1_1, if_pos ⟨rfl, rfl⟩]
  unfold gm_172_146
  rw [if_pos h72, sp_160, Option.bind_some, if_pos h72]
  show ((gm_160 r c (gw1 s 234 (9 * (r : Int) + (c : Int)).toNat (gn2 v))).bind _) = _
  rw [sp_160, Option.bind_some, if_pos h72]
  show ((gm_131 ((gw1 s 234 (9 * (r : Int) + (c : Int)).toNat (gn2 v)).1 234 (9 * (r : Int) + (c : Int)).toNat) (gw1 s 234 (9 * (r : Int) + (c : Int)).toNat (gn2 v))).bind _) = _
  rw [i1, gv, x1, sp_131 hv, Option.bind_some, if_pos hv', ce]
  rfl
theorem se_172_81 (k : Int → gx_S → Option gx_S) {s : gx_S} {m r c : Nat} (n : Nat) (hr : r < 8) (hc : c < m) (m9 : m ≤ 9) (h18 : s.1 215 18 = m) (h : 0 ≤ s.2 225 (9 * r + c) ∧ s.2 225 (9 * r + c) ≤ 1000000000) : gm_172_81 k (n + 1) r c s = if 0 < s.2 225 (9 * r + c) then (gm_171 (mkf s r c 1)).bind fun q => gm_172_81 k n r ((c + 1 : Nat) : Int) (stv q.2 r c (if q.1 = true then 1 else 0)) else gm_172_81 k n r ((c + 1 : Nat) : Int) (stv (mkf s r c 0) r c 0) := by
  have i1 : ((9 * (r : Int) + (c : Int))).toNat = 9 * r + c := by omega
  have hx : (-2147483648 ≤ (c : Int) ∧ (c : Int) ≤ 2147483647) := by omega
  have hm : (-2147483648 ≤ (m : Int) ∧ (m : Int) ≤ 2147483647) := by omega
  have hn : ¬ (m : Int) ≤ (c : Int) := by omega
  have h72 : 0 ≤ 9 * (r : Int) + (c : Int) ∧ 9 * (r : Int) + (c : Int) < 72 := by omega
  have g1 : gn2 1 = 1 := by decide
  have a67 : ∀ t : gx_S, t.2 = s.2 → gm_167 r c t = some (decide (0 < s.2 225 (9 * r + c)), t) := fun t e => by
    have := sp_167 (s := t) hr (show c < 9 by omega) (by rw [e]; exact h)
    rw [this, e]
  rw [gm_172_81, h18, if_pos hx, if_pos hm, if_neg hn, sp_160, Option.bind_some, if_pos h72]
  show ((gm_160 r c (gw1 s 233 (9 * (r : Int) + (c : Int)).toNat (gn2 1))).bind _) = _
  rw [sp_160, Option.bind_some, i1, g1]
  show ((gm_167 r c (gw1 s 233 (9 * r + c) 1)).bind _) = _
  rw [a67 _ (gw1_2 _ _ _ _), Option.bind_some, if_pos h72]
  show ((gm_160 r c (gw1 (gw1 s 233 (9 * r + c) 1) 234 (9 * (r : Int) + (c : Int)).toNat (gn2 (gb (decide (0 < s.2 225 (9 * r + c))))))).bind _) = _
  rw [sp_160, Option.bind_some, i1]
  show ((gm_167 r c (gw1 (gw1 s 233 (9 * r + c) 1) 234 (9 * r + c) (gn2 (gb (decide (0 < s.2 225 (9 * r + c))))))).bind _) = _
  rw [a67 _ ((gw1_2 _ _ _ _).trans (gw1_2 _ _ _ _)), Option.bind_some]
  by_cases z : 0 < s.2 225 (9 * r + c)
  · rw [if_pos z, decide_eq_true z, show gn2 (gb true) = 1 from by decide]
    show (if gb true = 0 then _ else _) = _
    rw [if_neg (show ¬ gb true = 0 by decide)]
    show ((gm_171 (mkf s r c 1)).bind _) = _
    congr 1
    funext q
    cases q.1 with
    | true =>
      rw [if_neg (show ¬ gb true = 0 by decide), if_pos rfl, se_172_146 _ hr (by omega) (.inr rfl)]
    | false =>
      rw [if_pos (show gb false = 0 by decide), if_neg Bool.false_ne_true, se_172_146 _ hr (by omega) (.inl rfl)]
  · rw [if_neg z, decide_eq_false z, show gn2 (gb false) = 0 from by decide]
    show (if gb false = 0 then _ else _) = _
    rw [if_pos (show gb false = 0 by decide), se_172_146 _ hr (by omega) (.inl rfl)]
    rfl
theorem stv_1 (s : gx_S) (r c : Nat) (v : Int) (k j : Nat) (h : k ≠ 234) : (stv s r c v).1 k j = s.1 k j := if_neg fun x => h x.1
theorem stv_v (s : gx_S) (r c : Nat) (v : Int) (j : Nat) : (stv s r c v).1 234 j = if j = 9 * r + c then v else s.1 234 j := by
  show (if _ then _ else _) = _
  by_cases e : j = 9 * r + c
  · rw [if_pos ⟨rfl, e⟩, if_pos e]
  · rw [if_neg (fun h => e h.2), if_neg e]
theorem stv_2 (s : gx_S) (r c : Nat) (v : Int) (k j : Nat) (h : k ≠ 224) : (stv s r c v).2 k j = s.2 k j := if_neg fun x => h x.1
theorem stv_4 (s : gx_S) (r c : Nat) (v : Int) (j : Nat) : (stv s r c v).2 224 j = s.2 224 j + if j = 9 * r + c then v else 0 := by
  show (if _ then _ else _) = _
  by_cases e : j = 9 * r + c
  · rw [if_pos ⟨rfl, e⟩, if_pos e, e]
  · rw [if_neg (fun h => e h.2), if_neg e]
    exact (Int.add_zero _).symm
theorem mkf_1 (s : gx_S) (r c : Nat) (v : Int) (k j : Nat) (h : k ≠ 233) (h' : k ≠ 234) : (mkf s r c v).1 k j = s.1 k j := (if_neg fun x => h' x.1).trans (if_neg fun x => h x.1)
theorem mkf_f (s : gx_S) (r c : Nat) (v : Int) (j : Nat) : (mkf s r c v).1 233 j = if j = 9 * r + c then 1 else s.1 233 j := by
  show (gw1 (gw1 s 233 (9 * r + c) 1) 234 (9 * r + c) v).1 233 j = _
  rw [gw1_1, if_neg (by omega), gw1_1]
  by_cases e : j = 9 * r + c
  · rw [if_pos ⟨rfl, e⟩, if_pos e]
  · rw [if_neg (fun h => e h.2), if_neg e]
theorem mkf_v (s : gx_S) (r c : Nat) (v : Int) (j : Nat) : (mkf s r c v).1 234 j = if j = 9 * r + c then v else s.1 234 j := by
  show (gw1 (gw1 s 233 (9 * r + c) 1) 234 (9 * r + c) v).1 234 j = _
  rw [gw1_1]
  by_cases e : j = 9 * r + c
  · rw [if_pos ⟨rfl, e⟩, if_pos e]
  · rw [if_neg (fun h => e h.2), if_neg e, gw1_1, if_neg (by omega)]
/-- what balances keeps: the fixed ones are the first that come right -/
def CI (s0 s : gx_S) (R m r c : Nat) : Prop := ((∀ k j, k ≠ 232 → k ≠ 233 → k ≠ 234 → k ≠ 235 → s.1 k j = s0.1 k j) ∧ ∀ k j, k ≠ 224 → k ≠ 229 → k ≠ 230 → k ≠ 231 → s.2 k j = s0.2 k j) ∧ (RB s R m ∧ WB s ∧ C01 s) ∧ (∀ x y, x < R → y < m → (s.1 233 (9 * x + y) = if ev r c x y then 1 else 0) ∧ (s.1 233 (9 * x + y) = 1 → s.1 234 (9 * x + y) = 1 → 0 < s0.2 225 (9 * x + y)) ∧ s.2 224 (9 * x + y) = s0.2 224 (9 * x + y) + if ev r c x y then s.1 234 (9 * x + y) else 0) ∧ (∀ j, (∀ x y, x < R → y < m → j ≠ 9 * x + y) → s.2 224 j = s0.2 224 j) ∧ (∃ T, FEr s0 R m T ∧ ∀ x y, x < R → y < m → ev r c x y → T (9 * x + y) = s.1 234 (9 * x + y)) ∧ ∀ T, FEr s0 R m T → ∀ x y, x < R → y < m → ev r c x y → (∀ x' y', x' < R → y' < m → ev x y x' y' → T (9 * x' + y') = s.1 234 (9 * x' + y')) → T (9 * x + y) ≤ s.1 234 (9 * x + y)
theorem FEr_o {s0 s : gx_S} {R m : Nat} {T : Nat → Int} (h : ∀ k j, k ≠ 224 → k ≠ 229 → k ≠ 230 → k ≠ 231 → s.2 k j = s0.2 k j) : FEr s R m T ↔ FEr s0 R m T := by
  have e : ∀ j, s.2 225 j = s0.2 225 j ∧ s.2 226 j = s0.2 226 j ∧ s.2 227 j = s0.2 227 j ∧ s.2 228 j = s0.2 228 j := fun j => ⟨h 225 j (by decide) (by decide) (by decide) (by decide), h 226 j (by decide) (by decide) (by decide) (by decide), h 227 j (by decide) (by decide) (by decide) (by decide), h 228 j (by decide) (by decide) (by decide) (by decide)⟩
  unfold FEr
  simp only [fun j => (e j).1, fun j => (e j).2.1, fun j => (e j).2.2.1, fun j => (e j).2.2.2]
end
section
/-! THE REFERENCE's BALANCED TABLE: balances fixes the first that comes right -/
theorem CI_step {s0 s t : gx_S} {R m r c : Nat} {v : Int} (hr : r < R) (hc : c < m) (m9 : m ≤ 9) (X : CI s0 s R m r c) (t1 : ∀ k j, k ≠ 232 → k ≠ 233 → k ≠ 234 → k ≠ 235 → t.1 k j = s.1 k j) (t2 : ∀ k j, k ≠ 224 → k ≠ 229 → k ≠ 230 → k ≠ 231 → t.2 k j = s.2 k j) (t3 : RB t R m ∧ WB t ∧ C01 t) (t4 : ∀ j, t.1 233 j = if j = 9 * r + c then 1 else s.1 233 j) (t5 : ∀ j, t.1 234 j = if j = 9 * r + c then v else s.1 234 j) (t6 : ∀ j, t.2 224 j = s.2 224 j + if j = 9 * r + c then v else 0) (hv : v = 1 → 0 < s0.2 225 (9 * r + c)) (k1 : ∃ T, FEr s0 R m T ∧ (∀ x y, x < R → y < m → ev r c x y → T (9 * x + y) = s.1 234 (9 * x + y)) ∧ T (9 * r + c) = v) (k2 : ∀ T, FEr s0 R m T → (∀ x y, x < R → y < m → ev r c x y → T (9 * x + y) = s.1 234 (9 * x + y)) → T (9 * r + c) ≤ v) : CI s0 t R m r (c + 1) := by
  obtain ⟨x1, x2, x3, x4, x5, x6⟩ := X
  have e0 : ¬ ev r c r c := by unfold ev; omega
  have e1 : ev r (c + 1) r c := by unfold ev; omega
  have eo : ∀ x y, ¬ (x = r ∧ y = c) → (ev r (c + 1) x y ↔ ev r c x y) := fun x y h => by unfold ev; omega
  have ne : ∀ x y, y < m → ¬ (x = r ∧ y = c) → ¬ 9 * x + y = 9 * r + c := fun x y hy h => by omega
  have old : ∀ x y, y < m → ¬ (x = r ∧ y = c) → t.1 234 (9 * x + y) = s.1 234 (9 * x + y) := fun x y hy h => by rw [t5, if_neg (ne x y hy h)]
  refine ⟨⟨fun k j h1 h2 h3 h4 => (t1 k j h1 h2 h3 h4).trans (x1.1 k j h1 h2 h3 h4), fun k j h1 h2 h3 h4 => (t2 k j h1 h2 h3 h4).trans (x1.2 k j h1 h2 h3 h4)⟩, t3, fun x y hx hy => ?_, fun j h => ?_, ?_, fun T hT x y hx hy h hT' => ?_⟩
  · obtain ⟨a1, a2, a3⟩ := x3 x y hx hy
    by_cases e : x = r ∧ y = c
    · obtain ⟨rfl, rfl⟩ := e
      rw [t4, t5, t6, if_pos rfl, if_pos rfl, if_pos rfl, if_pos e1, if_pos e1]
      rw [if_neg e0] at a3
      exact ⟨rfl, fun _ h => hv h, by omega⟩
    · have n := ne x y hy e
      rw [t4, t5, t6, if_neg n, if_neg n, if_neg n]
      by_cases q : ev r c x y
      · rw [if_pos ((eo x y e).mpr q), if_pos ((eo x y e).mpr q)]
        rw [if_pos q] at a1 a3
        exact ⟨a1, a2, by omega⟩
      · rw [if_neg (fun z => q ((eo x y e).mp z)), if_neg (fun z => q ((eo x y e).mp z))]
        rw [if_neg q] at a1 a3
        exact ⟨a1, a2, by omega⟩
  · rw [t6, if_neg (h r c hr hc), x4 j h]
    omega
  · obtain ⟨T, h1, h2, h3⟩ := k1
    refine ⟨T, h1, fun x y hx hy h => ?_⟩
    by_cases e : x = r ∧ y = c
    · rw [e.1, e.2, t5, if_pos rfl, h3]
    · rw [old x y hy e]
      exact h2 x y hx hy ((eo x y e).mp h)
  · by_cases e : x = r ∧ y = c
    · obtain ⟨rfl, rfl⟩ := e
      rw [t5, if_pos rfl]
      refine k2 T hT fun x' y' hx' hy' h' => ?_
      have a := hT' x' y' hx' hy' h'
      rw [old x' y' hy' (fun z => e0 (by rw [z.1, z.2] at h'; exact h'))] at a
      exact a
    · rw [old x y hy e]
      refine x6 T hT x y hx hy ((eo x y e).mp h) fun x' y' hx' hy' h' => ?_
      have a := hT' x' y' hx' hy' h'
      rw [old x' y' hy' (fun z => by
        have q := (eo x y e).mp h
        rw [z.1, z.2] at h'
        unfold ev at h' q
        omega)] at a
      exact a
theorem CI_row {s0 s : gx_S} {R m r : Nat} (X : CI s0 s R m r m) : CI s0 s R m (r + 1) 0 := by
  obtain ⟨x1, x2, x3, x4, ⟨T, x5, x5'⟩, x6⟩ := X
  have eo : ∀ x y, y < m → (ev (r + 1) 0 x y ↔ ev r m x y) := fun x y h => by unfold ev; omega
  refine ⟨x1, x2, fun x y hx hy => ?_, x4, ⟨T, x5, fun x y hx hy h => x5' x y hx hy ((eo x y hy).mp h)⟩, fun T hT x y hx hy h hT' => x6 T hT x y hx hy ((eo x y hy).mp h) hT'⟩
  obtain ⟨a1, a2, a3⟩ := x3 x y hx hy
  by_cases q : ev r m x y
  · rw [if_pos ((eo x y hy).mpr q), if_pos ((eo x y hy).mpr q)]
    rw [if_pos q] at a1 a3
    exact ⟨a1, a2, a3⟩
  · rw [if_neg (fun z => q ((eo x y hy).mp z)), if_neg (fun z => q ((eo x y hy).mp z))]
    rw [if_neg q] at a1 a3
    exact ⟨a1, a2, a3⟩
theorem CI_81 {s0 s : gx_S} {R m r c : Nat} (k : Int → gx_S → Option gx_S) (n : Nat) (hr : r < R) (hc : c < m) (X : CI s0 s R m r c) (h6 : ∀ r, r < R → 0 ≤ s0.2 226 r ∧ s0.2 226 r ≤ 9) (h7 : ∀ c, c < 9 → (0 ≤ s0.2 227 c ∧ s0.2 227 c ≤ 9) ∧ 0 ≤ s0.2 228 c ∧ s0.2 228 c ≤ 9) : ∃ t : gx_S, gm_172_81 k (n + 1) r c s = gm_172_81 k n r ((c + 1 : Nat) : Int) t ∧ CI s0 t R m r (c + 1) := by
  obtain ⟨x1, x2, x3, x4, ⟨T0, x5, x5'⟩, x6⟩ := id X
  obtain ⟨B, W, C⟩ := x2
  obtain ⟨k1, k2, k3, k4, R8, m9⟩ := id B
  have e25 : ∀ j, s.2 225 j = s0.2 225 j := fun j => x1.2 225 j (by decide) (by decide) (by decide) (by decide)
  have b25 := (k1 (9 * r + c) (by omega)).2.2
  rw [se_172_81 k n (by omega) hc m9 k4 b25]
  have Bm : ∀ v, RB (mkf s r c v) R m := fun v => by
    refine ⟨fun j hj => ⟨?_, ?_, (k1 j hj).2.2⟩, fun d hd => ⟨?_, (k2 d hd).2⟩, ?_, ?_, R8, m9⟩
    · rw [mkf_1 s r c v 232 j (by decide) (by decide)]
      exact (k1 j hj).1
    · rw [mkf_f]
      split
      · exact .inr rfl
      · exact (k1 j hj).2.1
    · rw [mkf_1 s r c v 235 d (by decide) (by decide)]
      exact (k2 d hd).1
    · rw [mkf_1 s r c v 215 17 (by decide) (by decide)]
      exact k3
    · rw [mkf_1 s r c v 215 18 (by decide) (by decide)]
      exact k4
  have Cm : ∀ v, v = 0 ∨ v = 1 → C01 (mkf s r c v) := fun v hv j hj => by
    rw [mkf_f, mkf_v]
    have a := C j hj
    refine ⟨?_, ?_⟩
    · split
      · exact .inr rfl
      · exact a.1
    · split
      · exact hv
      · exact a.2
  have St : ∀ (u : gx_S) (v : Int), (v = 0 ∨ v = 1) → RB u R m ∧ WB u ∧ C01 u → RB (stv u r c v) R m ∧ WB (stv u r c v) ∧ C01 (stv u r c v) := fun u v hv ⟨a1, a2, a3⟩ => by
    refine ⟨⟨fun j hj => ?_, fun d hd => ?_, ?_, ?_, R8, m9⟩, fun j hj => ?_, fun j hj => ?_⟩
    · rw [stv_1 u r c v 232 j (by decide), stv_1 u r c v 233 j (by decide), stv_2 u r c v 225 j (by decide)]
      exact a1.1 j hj
    · rw [stv_1 u r c v 235 d (by decide), stv_2 u r c v 229 d (by decide), stv_2 u r c v 230 d (by decide)]
      exact a1.2.1 d hd
    · rw [stv_1 u r c v 215 17 (by decide)]
      exact a1.2.2.1
    · rw [stv_1 u r c v 215 18 (by decide)]
      exact a1.2.2.2.1
    · rw [stv_2 u r c v 231 j (by decide)]
      exact a2 j hj
    · rw [stv_1 u r c v 233 j (by decide), stv_v]
      refine ⟨(a3 j hj).1, ?_⟩
      split
      · exact hv
      · exact (a3 j hj).2
  by_cases z : 0 < s.2 225 (9 * r + c)
  · rw [if_pos z]
    obtain ⟨b, u, u1, u2, u3, u4, u5⟩ := sp_171 (s := mkf s r c 1) (Bm 1) W (Cm 1 (.inr rfl)) (fun x y hx hy h1 h2 => by
      show 0 < s.2 225 (9 * x + y)
      rw [mkf_f] at h1
      rw [mkf_v] at h2
      by_cases e : 9 * x + y = 9 * r + c
      · rw [e]; exact z
      · rw [if_neg e] at h1 h2
        rw [e25]
        exact (x3 x y hx hy).2.1 h1 h2) (fun x hx => by
      show 0 ≤ s.2 226 x ∧ s.2 226 x ≤ 9
      rw [x1.2 226 x (by decide) (by decide) (by decide) (by decide)]
      exact h6 x hx) (fun d hd => by
      show (0 ≤ s.2 227 d ∧ s.2 227 d ≤ 9) ∧ 0 ≤ s.2 228 d ∧ s.2 228 d ≤ 9
      rw [x1.2 227 d (by decide) (by decide) (by decide) (by decide), x1.2 228 d (by decide) (by decide) (by decide) (by decide)]
      exact h7 d hd)
    have Fe : ∀ T, FEr (mkf s r c 1) R m T ↔ FEr s0 R m T := fun T => FEr_o (s := mkf s r c 1) x1.2
    have AG : ∀ T, AGr (mkf s r c 1) R m T ↔ ((∀ x y, x < R → y < m → ev r c x y → T (9 * x + y) = s.1 234 (9 * x + y)) ∧ T (9 * r + c) = 1) := fun T => by
      constructor
      · intro h
        refine ⟨fun x y hx hy q => ?_, ?_⟩
        · have ne : ¬ 9 * x + y = 9 * r + c := by unfold ev at q; omega
          have a := h x y hx hy
          rw [mkf_f, mkf_v, if_neg ne, if_neg ne, (x3 x y hx hy).1, if_pos q] at a
          exact a rfl
        · have a := h r c hr hc
          rw [mkf_f, mkf_v, if_pos rfl, if_pos rfl] at a
          exact a rfl
      · rintro ⟨h1, h2⟩ x y hx hy
        rw [mkf_f, mkf_v]
        by_cases e : 9 * x + y = 9 * r + c
        · rw [if_pos e, if_pos e, e]
          exact fun _ => h2
        · rw [if_neg e, if_neg e, (x3 x y hx hy).1]
          by_cases q : ev r c x y
          · exact fun _ => h1 x y hx hy q
          · rw [if_neg q]
            exact fun h => absurd h (by decide)
    rw [u1, Option.bind_some]
    have uC : C01 u := fun j hj => by
      rw [u2.1 233 j (by decide) (by decide), u2.1 234 j (by decide) (by decide)]
      exact Cm 1 (.inr rfl) j hj
    have v01 : (if b = true then (1 : Int) else 0) = 0 ∨ (if b = true then (1 : Int) else 0) = 1 := by
      split
      · exact .inr rfl
      · exact .inl rfl
    refine ⟨_, rfl, CI_step (v := if b = true then 1 else 0) hr hc m9 X (fun k j h1 h2 h3 h4 => ?_) (fun k j h1 h2 h3 h4 => ?_) (St u _ v01 ⟨u3, u4, uC⟩) (fun j => ?_) (fun j => ?_) (fun j => ?_) (fun _ => by rw [← e25]; exact z) ?_ ?_⟩
    · rw [stv_1 u r c _ k j h3, u2.1 k j h1 h4, mkf_1 s r c 1 k j h2 h3]
    · rw [stv_2 u r c _ k j h1, u2.2 k j h2 h3 h4]
      rfl
    · rw [stv_1 u r c _ 233 j (by decide), u2.1 233 j (by decide) (by decide), mkf_f]
    · rw [stv_v, u2.1 234 j (by decide) (by decide), mkf_v]
      by_cases e : j = 9 * r + c
      · rw [if_pos e, if_pos e]
      · rw [if_neg e, if_neg e, if_neg e]
    · rw [stv_4, u2.2 224 j (by decide) (by decide) (by decide)]
      rfl
    · cases b with
      | true =>
        obtain ⟨T, T1, T2⟩ := u5.mp rfl
        obtain ⟨T3, T4⟩ := (AG T).mp T2
        exact ⟨T, (Fe T).mp T1, T3, T4⟩
      | false =>
        refine ⟨T0, x5, x5', ?_⟩
        rcases (x5.1 r c hr hc).1 with q | q
        · exact q
        · exact absurd (u5.mpr ⟨T0, (Fe T0).mpr x5, (AG T0).mpr ⟨x5', q⟩⟩) Bool.false_ne_true
    · intro T hT hT'
      have t01 := (hT.1 r c hr hc).1
      cases b with
      | true =>
        rw [if_pos rfl]
        omega
      | false =>
        rw [if_neg Bool.false_ne_true]
        rcases t01 with q | q
        · omega
        · exact absurd (u5.mpr ⟨T, (Fe T).mpr hT, (AG T).mpr ⟨hT', q⟩⟩) Bool.false_ne_true
  · rw [if_neg z]
    have zero : ∀ T, FEr s0 R m T → T (9 * r + c) = 0 := fun T hT => by
      obtain ⟨a1, a2⟩ := hT.1 r c hr hc
      rcases a1 with q | q
      · exact q
      · have := a2 q
        rw [← e25] at this
        exact absurd this z
    refine ⟨_, rfl, CI_step hr hc m9 X (fun k j h1 h2 h3 h4 => ?_) (fun k j h1 h2 h3 h4 => ?_) (St _ 0 (.inl rfl) ⟨Bm 0, W, Cm 0 (.inl rfl)⟩) (fun j => ?_) (fun j => ?_) (fun j => ?_) (fun h => absurd h (by decide)) ⟨T0, x5, x5', zero T0 x5⟩ fun T hT _ => Int.le_of_eq (zero T hT)⟩
    · rw [stv_1 _ r c _ k j h3, mkf_1 s r c 0 k j h2 h3]
    · rw [stv_2 _ r c _ k j h1]
      rfl
    · rw [stv_1 _ r c _ 233 j (by decide), mkf_f]
    · rw [stv_v, mkf_v]
      by_cases e : j = 9 * r + c
      · rw [if_pos e, if_pos e]
      · rw [if_neg e, if_neg e]
    · rw [stv_4]
      rfl
end
section
/-! THE REFERENCE's BALANCED TABLE: balances' loops -/
theorem sl_172_81 {s0 : gx_S} {R m r : Nat} (k : Int → gx_S → Option gx_S) (hr : r < R) (h6 : ∀ r, r < R → 0 ≤ s0.2 226 r ∧ s0.2 226 r ≤ 9) (h7 : ∀ c, c < 9 → (0 ≤ s0.2 227 c ∧ s0.2 227 c ≤ 9) ∧ 0 ≤ s0.2 228 c ∧ s0.2 228 c ≤ 9) : ∀ (n c : Nat) (s : gx_S), m < n + c → c ≤ m → CI s0 s R m r c → ∃ t : gx_S, gm_172_81 k n r c s = k ((r + 1 : Nat) : Int) t ∧ CI s0 t R m (r + 1) 0 := by
  intro n
  induction n with
  | zero => intro c s h; omega
  | succ n ih =>
    intro c s h hc X
    have m9 : m ≤ 9 := X.2.1.1.2.2.2.2.2
    have k4 : s.1 215 18 = m := X.2.1.1.2.2.2.1
    by_cases q : c = m
    · refine ⟨s, ?_, CI_row (q ▸ X)⟩
      rw [gm_172_81, k4, q]
      have ce : ((r : Int) + 1) = ((r + 1 : Nat) : Int) := rfl
      simp (disch := omega) only [if_pos, ce]
    · obtain ⟨t, t1, t2⟩ := CI_81 k n hr (by omega) X h6 h7
      rw [t1]
      exact ih (c + 1) t (by omega) (by omega) t2
theorem sl_172_71 {s0 : gx_S} {R m : Nat} (h6 : ∀ r, r < R → 0 ≤ s0.2 226 r ∧ s0.2 226 r ≤ 9) (h7 : ∀ c, c < 9 → (0 ≤ s0.2 227 c ∧ s0.2 227 c ≤ 9) ∧ 0 ≤ s0.2 228 c ∧ s0.2 228 c ≤ 9) : ∀ (n r : Nat) (s : gx_S), R < n + r → r ≤ R → CI s0 s R m r 0 → ∃ t : gx_S, gm_172_71 n r s = some t ∧ CI s0 t R m R 0 := by
  intro n
  induction n with
  | zero => intro c s h; omega
  | succ n ih =>
    intro r s h hr X
    have m9 : m ≤ 9 := X.2.1.1.2.2.2.2.2
    have R8 : R ≤ 8 := X.2.1.1.2.2.2.2.1
    have k3 : s.1 215 17 = R := X.2.1.1.2.2.1
    rw [gm_172_71, k3, if_pos (by omega), if_pos (by omega)]
    by_cases q : r = R
    · rw [if_pos (by omega)]
      exact ⟨s, rfl, q ▸ X⟩
    · rw [if_neg (by omega)]
      obtain ⟨t, t1, t2⟩ := sl_172_81 (gm_172_71 n) (show r < R by omega) h6 h7 100000 0 s (by omega) (by omega) X
      have t1 : gm_172_81 (gm_172_71 n) 100000 r 0 s = _ := t1
      rw [t1]
      exact ih (r + 1) t (by omega) (by omega) t2
theorem sl_172_50 : ∀ (n j : Nat) (s : gx_S), 72 < n + j → j ≤ 72 → ∃ u : gx_S, gm_172_50 n j s = gm_172_71 100000 0 u ∧ u.2 = s.2 ∧ (∀ k i, k ≠ 233 → u.1 k i = s.1 k i) ∧ ∀ i, i < 72 → u.1 233 i = if j ≤ i then 0 else s.1 233 i := by
  intro n
  induction n with
  | zero => intro c s h; omega
  | succ n ih =>
    intro j s h hj
    by_cases q : j = 72
    · refine ⟨s, ?_, rfl, fun _ _ _ => rfl, fun i hi => by rw [if_neg (by omega)]⟩
      rw [gm_172_50, q]
      exact (if_pos (by decide)).trans (if_pos (by decide))
    · have i5 : ((j : Int)).toNat = j := by omega
      have ce : ((j : Int) + 1) = ((j + 1 : Nat) : Int) := rfl
      have g0 : gn2 0 = 0 := by decide
      obtain ⟨u, u1, u2, u3, u4⟩ := ih (j + 1) (gw1 s 233 j 0) (by omega) (by omega)
      refine ⟨u, ?_, u2, fun k i h => (u3 k i h).trans (by rw [gw1_1, if_neg (fun x => h x.1)]), fun i hi => ?_⟩
      · rw [← u1, gm_172_50]
        simp (disch := omega) only [if_pos, if_neg, i5, ce, g0]
      · rw [u4 i hi, gw1_1]
        by_cases q' : i = j
        · rw [if_neg (by omega), if_pos ⟨rfl, q'⟩, if_pos (by omega)]
        · by_cases q2 : j ≤ i
          · rw [if_pos (by omega), if_pos q2]
          · rw [if_neg (by omega), if_neg q2, if_neg (fun x => q' x.2)]
theorem sl_172_29 {R m K : Nat} (R8 : R ≤ 8) (m9 : m ≤ 9) (hK : 0 < K ∧ K ≤ 20000000000000000) : ∀ (n c : Nat) (s : gx_S), m < n + c → c ≤ m → s.1 215 17 = R → s.1 215 18 = m → (∀ d, d < m → RT s R d K) → ∃ u : gx_S, gm_172_29 n c s = gm_172_50 100000 0 u ∧ u.1 = s.1 ∧ (∀ k i, ¬ (k = 215 ∧ (i = 29 ∨ i = 30)) → k ≠ 227 → k ≠ 228 → u.2 k i = s.2 k i) ∧ (∀ d, c ≤ d → d < m → u.2 227 d = sg (rr s d K) R / K ∧ u.2 228 d = sg (rr s d K) R / K + if sg (rr s d K) R % K = 0 then 0 else 1) ∧ ∀ d, ¬ (c ≤ d ∧ d < m) → u.2 227 d = s.2 227 d ∧ u.2 228 d = s.2 228 d := by
  intro n
  induction n with
  | zero => intro c s h; omega
  | succ n ih =>
    intro c s h hc e17 e18 H
    rw [gm_172_29, e18, if_pos (by omega), if_pos (by omega)]
    by_cases q : c = m
    · rw [if_pos (by omega)]
      exact ⟨s, rfl, rfl, fun _ _ _ _ _ => rfl, fun d h1 h2 => by omega, fun d _ => ⟨rfl, rfl⟩⟩
    · have ce : ((c : Int) + 1) = ((c + 1 : Nat) : Int) := rfl
      obtain ⟨t, t1, t2, t3, t4, t5⟩ := sp_166 (s := s) R8 (show c < 9 by omega) hK e17 (H c (by omega))
      rw [if_neg (by omega), t1, Option.bind_some, ce]
      have t25 : ∀ i, t.2 225 i = s.2 225 i := fun i => t3 225 i (by omega) (by omega) (by omega)
      obtain ⟨u, u1, u2, u3, u4, u5⟩ := ih (c + 1) t (by omega) (by omega) (by rw [t2]; exact e17) (by rw [t2]; exact e18) fun d hd r hr => by
        rw [t2, t25]
        exact H d hd r hr
      refine ⟨u, u1, u2.trans t2, fun k i h1 h2 h3 => (u3 k i h1 h2 h3).trans (t3 k i h1 (fun x => h2 x.1) (fun x => h3 x.1)), fun d h1 h2 => ?_, fun d h1 => ?_⟩
      · by_cases q' : d = c
        · rw [q']
          obtain ⟨v1, v2⟩ := u5 c (by omega)
          rw [v1, v2]
          exact ⟨t4, t5⟩
        · have v := u4 d (by omega) h2
          rw [rr_o t2 t25 d (K : Int)] at v
          exact v
      · obtain ⟨v1, v2⟩ := u5 d (by omega)
        rw [v1, v2]
        exact ⟨t3 227 d (by omega) (by omega) (by omega), t3 228 d (by omega) (by omega) (by omega)⟩
/-- floors, rests, left over of the reference's rows -/
def flq (s : gx_S) (i : Nat) : Int := if s.1 223 (i / 9) = 0 then 0 else s.2 221 (i / 9) * s.1 222 i / s.1 223 (i / 9)
def rsq (s : gx_S) (i : Nat) : Int := if s.1 223 (i / 9) = 0 then 0 else s.2 221 (i / 9) * s.1 222 i % s.1 223 (i / 9)
def loq (s : gx_S) (m r : Nat) : Int := if s.1 223 r = 0 then 0 else s.2 221 r - sg (fun c => flq s (9 * r + c)) m
/-- the rows are ready: people, amounts, totals -/
def PR (s : gx_S) (R m : Nat) : Prop := s.1 215 17 = R ∧ s.1 215 18 = m ∧ R ≤ 8 ∧ m ≤ 9 ∧ ∀ r, r < R → (0 ≤ s.2 221 r ∧ s.2 221 r ≤ 1000000000) ∧ (∀ c, c < m → 0 ≤ s.1 222 (9 * r + c) ∧ s.1 222 (9 * r + c) ≤ 1000000) ∧ s.1 223 r = sg (fun c => s.1 222 (9 * r + c)) m
theorem PR_w {s : gx_S} {R m : Nat} (P : PR s R m) {r : Nat} (hr : r < R) : 0 ≤ s.1 223 r ∧ s.1 223 r ≤ 9000000 := by
  obtain ⟨p1, p2, p3, p4, p5⟩ := P
  obtain ⟨_, a, b⟩ := p5 r hr
  rw [b]
  refine ⟨sg_nn fun c hc => (a c hc).1, ?_⟩
  have x := sg_le (f := fun c => s.1 222 (9 * r + c)) (g := fun _ => 1000000 * 1) (n := m) fun c hc => by
    have := (a c hc).2
    show s.1 222 (9 * r + c) ≤ 1000000 * 1
    omega
  rw [sg_mul, sg_one] at x
  omega
theorem sl_172_2 {R m : Nat} : ∀ (n j : Nat) (s : gx_S), R < n + j → j ≤ R → PR s R m → ∃ u : gx_S, gm_172_2 n j s = gm_172_29 100000 0 u ∧ u.1 = s.1 ∧ (∀ k i, k ≠ 224 → k ≠ 225 → k ≠ 226 → u.2 k i = s.2 k i) ∧ (∀ x y, j ≤ x → x < R → y < m → u.2 224 (9 * x + y) = flq s (9 * x + y) ∧ u.2 225 (9 * x + y) = rsq s (9 * x + y)) ∧ (∀ x, j ≤ x → x < R → u.2 226 x = loq s m x) ∧ (∀ i, (∀ x y, j ≤ x → x < R → y < m → i ≠ 9 * x + y) → u.2 224 i = s.2 224 i ∧ u.2 225 i = s.2 225 i) ∧ ∀ i, ¬ (j ≤ i ∧ i < R) → u.2 226 i = s.2 226 i := by
  intro n
  induction n with
  | zero => intro j s h; omega
  | succ n ih =>
    intro j s h hj P
    obtain ⟨p1, p2, p3, p4, p5⟩ := id P
    rw [gm_172_2, p1, if_pos (by omega), if_pos (by omega)]
    by_cases q : j = R
    · rw [if_pos (by omega)]
      exact ⟨s, rfl, rfl, fun _ _ _ _ _ => rfl, fun x y h1 h2 => by omega, fun x h1 h2 => by omega, fun i _ => ⟨rfl, rfl⟩, fun i _ => rfl⟩
    · have hR : j < R := by omega
      have i5 : ((j : Int)).toNat = j := by omega
      have ce : ((j : Int) + 1) = ((j + 1 : Nat) : Int) := rfl
      obtain ⟨a1, a2, a3⟩ := p5 j hR
      have w := PR_w P hR
      rw [if_neg (by omega), sp_162 (by omega) p4 p2 a1 a2 (by omega), Option.bind_some, if_pos (by omega), i5, ce]
      have c4 : ∀ i, (ct s j m).2 224 i = if 9 * j ≤ i ∧ i < 9 * j + m then flq s i else s.2 224 i := fun i => by
        show (if 224 = 224 ∧ 9 * j ≤ i ∧ i < 9 * j + m then _ else if 224 = 225 ∧ 9 * j ≤ i ∧ i < 9 * j + m then _ else _) = _
        by_cases q' : 9 * j ≤ i ∧ i < 9 * j + m
        · rw [if_pos ⟨rfl, q'⟩, if_pos q']
          unfold flq
          rw [show i / 9 = j by omega]
        · rw [if_neg (fun x => q' x.2), if_neg (by omega), if_neg q']
      have c5 : ∀ i, (ct s j m).2 225 i = if 9 * j ≤ i ∧ i < 9 * j + m then rsq s i else s.2 225 i := fun i => by
        have e : (ct s j m).2 225 i = if (225 : Nat) = 224 ∧ 9 * j ≤ i ∧ i < 9 * j + m then (if s.1 223 j = 0 then 0 else s.2 221 j * s.1 222 i / s.1 223 j) else if (225 : Nat) = 225 ∧ 9 * j ≤ i ∧ i < 9 * j + m then (if s.1 223 j = 0 then 0 else s.2 221 j * s.1 222 i % s.1 223 j) else s.2 225 i := rfl
        rw [e, if_neg (by omega)]
        by_cases q' : 9 * j ≤ i ∧ i < 9 * j + m
        · rw [if_pos ⟨rfl, q'⟩, if_pos q']
          unfold rsq
          rw [show i / 9 = j by omega]
        · rw [if_neg (fun x => q' x.2), if_neg q']
      have co : ∀ k i, k ≠ 224 → k ≠ 225 → (ct s j m).2 k i = s.2 k i := fun k i h1 h2 => by
        show (if k = 224 ∧ _ then _ else if k = 225 ∧ _ then _ else _) = _
        rw [if_neg (fun x => h1 x.1), if_neg (fun x => h2 x.1)]
      have lq : (if s.1 223 j = 0 then 0 else s.2 221 j - sg (fun c => (ct s j m).2 224 (9 * j + c)) m) = loq s m j := by
        unfold loq
        rw [sg_eq (f := fun c => (ct s j m).2 224 (9 * j + c)) (g := fun c => flq s (9 * j + c)) fun c hc => by rw [c4, if_pos (by omega)]]
      rw [lq]
      obtain ⟨t, ht⟩ : ∃ t : gx_S, t = gw2 (ct s j m) 226 j (loq s m j) := ⟨_, rfl⟩
      rw [← ht]
      have t1 : t.1 = s.1 := by rw [ht]; rfl
      have t2 : ∀ k i, k ≠ 224 → k ≠ 225 → k ≠ 226 → t.2 k i = s.2 k i := fun k i h1 h2 h3 => by
        rw [ht, gw2_2, if_neg (fun x => h3 x.1), co k i h1 h2]
      have t21 : ∀ i, t.2 221 i = s.2 221 i := fun i => t2 221 i (by decide) (by decide) (by decide)
      have tf : ∀ i, flq t i = flq s i := fun i => by
        unfold flq
        rw [t1, t21]
      have tr : ∀ i, rsq t i = rsq s i := fun i => by
        unfold rsq
        rw [t1, t21]
      have tl : ∀ x, loq t m x = loq s m x := fun x => by
        unfold loq
        rw [t1, t21, sg_eq (f := fun c => flq t (9 * x + c)) (g := fun c => flq s (9 * x + c)) fun c _ => tf _]
      have t4 : ∀ i, t.2 224 i = if 9 * j ≤ i ∧ i < 9 * j + m then flq s i else s.2 224 i := fun i => by
        rw [ht, gw2_2, if_neg (by omega), c4]
      have t5 : ∀ i, t.2 225 i = if 9 * j ≤ i ∧ i < 9 * j + m then rsq s i else s.2 225 i := fun i => by
        rw [ht, gw2_2, if_neg (by omega), c5]
      have t6 : ∀ i, t.2 226 i = if i = j then loq s m j else s.2 226 i := fun i => by
        rw [ht, gw2_2]
        by_cases q' : i = j
        · rw [if_pos ⟨rfl, q'⟩, if_pos q']
        · rw [if_neg (fun x => q' x.2), if_neg q', co 226 i (by decide) (by decide)]
      obtain ⟨u, u1, u2, u3, u4, u5, u6, u7⟩ := ih (j + 1) t (by omega) (by omega) ⟨by rw [t1]; exact p1, by rw [t1]; exact p2, p3, p4, fun r hr => by
        rw [t1, t21]
        exact p5 r hr⟩
      refine ⟨u, u1, u2.trans t1, fun k i h1 h2 h3 => (u3 k i h1 h2 h3).trans (t2 k i h1 h2 h3), fun x y h1 h2 h3 => ?_, fun x h1 h2 => ?_, fun i h => ?_, fun i h => ?_⟩
      · by_cases q' : x = j
        · obtain ⟨v1, v2⟩ := u6 (9 * x + y) fun x' y' z1 z2 z3 => by omega
          rw [v1, v2, t4, t5, if_pos (by omega), if_pos (by omega)]
          exact ⟨rfl, rfl⟩
        · obtain ⟨v1, v2⟩ := u4 x y (by omega) h2 h3
          rw [v1, v2, tf, tr]
          exact ⟨rfl, rfl⟩
      · by_cases q' : x = j
        · rw [u7 x (by omega), t6, if_pos q', q']
        · rw [u5 x (by omega) h2, tl]
      · obtain ⟨v1, v2⟩ := u6 i fun x' y' z1 z2 z3 => h x' y' (by omega) z2 z3
        rw [v1, v2, t4, t5, if_neg (fun z => h j (i - 9 * j) (by omega) hR (by omega) (by omega)), if_neg (fun z => h j (i - 9 * j) (by omega) hR (by omega) (by omega))]
        exact ⟨rfl, rfl⟩
      · rw [u7 i (by omega), t6, if_neg (by omega)]
end
section
/-! THE REFERENCE's BALANCED TABLE: it is the first that comes right -/
abbrev ins (R m i : Nat) : Prop := i / 9 < R ∧ i % 9 < m
theorem ins_i {R m x y : Nat} (hx : x < R) (hy : y < m) (m9 : m ≤ 9) : ins R m (9 * x + y) := by unfold ins; omega
def Fq (s : gx_S) (R m i : Nat) : Int := if ins R m i ∧ 0 < rsq s i then 1 else 0
def Wq (s : gx_S) (R m r : Nat) : Int := if r < R then loq s m r else 0
def Sq (s : gx_S) (R : Nat) (K : Int) (c : Nat) : Int := sg (fun r => if rsq s (9 * r + c) ≤ 0 then 0 else rsq s (9 * r + c) * (K / s.1 223 r)) R
def Lq (s : gx_S) (R m : Nat) (K : Int) (c : Nat) : Int := if c < m then Sq s R K c / K else 0
def Oq (s : gx_S) (R m : Nat) (K : Int) (c : Nat) : Int := if c < m then Sq s R K c / K + (if Sq s R K c % K = 0 then 0 else 1) else 0
/-- the reference's own cells for tables are within their ranges -/
def SC (s : gx_S) : Prop := (∀ j, j < 72 → (s.1 232 j = 0 ∨ s.1 232 j = 1) ∧ (s.1 233 j = 0 ∨ s.1 233 j = 1) ∧ (s.1 234 j = 0 ∨ s.1 234 j = 1) ∧ (0 ≤ s.2 225 j ∧ s.2 225 j ≤ 1000000000)) ∧ (∀ c, c < 9 → (s.1 235 c = 0 ∨ s.1 235 c = 1) ∧ (-900 ≤ s.2 229 c ∧ s.2 229 c ≤ 900) ∧ (-1000 ≤ s.2 230 c ∧ s.2 230 c ≤ 1000) ∧ (0 ≤ s.2 227 c ∧ s.2 227 c ≤ 9) ∧ (0 ≤ s.2 228 c ∧ s.2 228 c ≤ 9)) ∧ ∀ k, k < 8 → -1000 ≤ s.2 231 k ∧ s.2 231 k ≤ 1000
/-- what fills may change -/
def rc (s u : gx_S) : Prop := (∀ k i, k ≠ 223 → k ≠ 232 → k ≠ 233 → k ≠ 234 → k ≠ 235 → u.1 k i = s.1 k i) ∧ ∀ k i, ¬ (k = 215 ∧ (i = 29 ∨ i = 30)) → ¬ (224 ≤ k ∧ k ≤ 231) → u.2 k i = s.2 k i
theorem FE_FEr {s d : gx_S} {R m : Nat} {K : Int} {T : Nat → Int} (R8 : R ≤ 8) (m9 : m ≤ 9) (h5 : ∀ x y, x < R → y < m → d.2 225 (9 * x + y) = rsq s (9 * x + y)) (h6 : ∀ x, x < R → d.2 226 x = loq s m x) (h7 : ∀ y, y < m → d.2 227 y = Lq s R m K y ∧ d.2 228 y = Oq s R m K y) (h : FE (Lq s R m K) (Oq s R m K) (Fq s R m) (Wq s R m) T) : FEr d R m T := by
  have z : ∀ i, i < 72 → ¬ ins R m i → T i = 0 := fun i hi n => by
    obtain ⟨a, b⟩ := h.1 i hi
    rw [show Fq s R m i = 0 from if_neg fun x => n x.1] at b
    omega
  refine ⟨fun r c hr hc => ⟨(h.1 _ (by omega)).1, fun e => ?_⟩, fun r hr => ?_, fun c hc => ?_⟩
  · have b := (h.1 (9 * r + c) (by omega)).2
    rw [e] at b
    rw [h5 r c hr hc]
    unfold Fq at b
    by_cases q : ins R m (9 * r + c) ∧ 0 < rsq s (9 * r + c)
    · exact q.2
    · rw [if_neg q] at b
      omega
  · rw [h6 r hr]
    have a := h.2.1 r (by omega)
    rw [show Wq s R m r = loq s m r from if_pos hr] at a
    rw [← a]
    exact (sg_cut0 m9 fun k h1 h2 => z _ (by omega) (by unfold ins; omega)).symm
  · have a := h.2.2 c (by omega)
    rw [(h7 c hc).1, (h7 c hc).2]
    rw [sg_cut0 (f := fun r => T (9 * r + c)) R8 fun k h1 h2 => z _ (by omega) (by unfold ins; omega)] at a
    exact a
theorem FEr_FE {s d : gx_S} {R m : Nat} {K : Int} {T : Nat → Int} (R8 : R ≤ 8) (m9 : m ≤ 9) (h5 : ∀ x y, x < R → y < m → d.2 225 (9 * x + y) = rsq s (9 * x + y)) (h6 : ∀ x, x < R → d.2 226 x = loq s m x) (h7 : ∀ y, y < m → d.2 227 y = Lq s R m K y ∧ d.2 228 y = Oq s R m K y) (h : FEr d R m T) : FE (Lq s R m K) (Oq s R m K) (Fq s R m) (Wq s R m) (fun i => if ins R m i then T i else 0) := by
  have y0 : ∀ r c, ¬ (r < R ∧ c < m) → c < 9 → (if ins R m (9 * r + c) then T (9 * r + c) else 0) = 0 := fun r c h hc => if_neg (by unfold ins; omega)
  have y1 : ∀ r c, r < R → c < m → (if ins R m (9 * r + c) then T (9 * r + c) else 0) = T (9 * r + c) := fun r c hr hc => if_pos (ins_i hr hc m9)
  refine ⟨fun i hi => ?_, fun r hr => ?_, fun c hc => ?_⟩
  · show ((if ins R m i then T i else 0) = 0 ∨ (if ins R m i then T i else 0) = 1) ∧ (if ins R m i then T i else 0) ≤ Fq s R m i
    unfold Fq
    by_cases q : ins R m i
    · have e : 9 * (i / 9) + i % 9 = i := by omega
      obtain ⟨a, b⟩ := h.1 (i / 9) (i % 9) q.1 q.2
      have d5 := h5 (i / 9) (i % 9) q.1 q.2
      rw [e] at a b d5
      rw [if_pos q]
      refine ⟨a, ?_⟩
      by_cases q2 : 0 < rsq s i
      · rw [if_pos ⟨q, q2⟩]
        omega
      · rw [if_neg (fun x => q2 x.2)]
        rcases a with a | a
        · omega
        · have := b a
          omega
    · rw [if_neg q, if_neg (fun x => q x.1)]
      exact ⟨.inl rfl, Int.le_refl 0⟩
  · by_cases q : r < R
    · rw [show Wq s R m r = loq s m r from if_pos q, ← h6 r q, ← h.2.1 r q, sg_cut0 m9 fun k h1 h2 => y0 r k (by omega) h2]
      exact sg_eq fun c hc => y1 r c q hc
    · rw [show Wq s R m r = 0 from if_neg q]
      exact sg_0 fun c hc => y0 r c (by omega) hc
  · by_cases q : c < m
    · rw [← (h7 c q).1, ← (h7 c q).2, sg_cut0 R8 fun k h1 h2 => y0 k c (by omega) hc, sg_eq (g := fun r => T (9 * r + c)) fun r hr => y1 r c hr q]
      exact h.2.2 c q
    · rw [show Lq s R m K c = 0 from if_neg q, show Oq s R m K c = 0 from if_neg q, sg_0 fun r hr => y0 r c (by omega) hc]
      exact ⟨Int.le_refl 0, Int.le_refl 0⟩
theorem rsq_B {s : gx_S} {R m : Nat} (P : PR s R m) {x y : Nat} (hx : x < R) (hy : y < m) : 0 ≤ rsq s (9 * x + y) ∧ rsq s (9 * x + y) ≤ s.1 223 x := by
  have w := PR_w P hx
  have m9 := P.2.2.2.1
  unfold rsq
  rw [show (9 * x + y) / 9 = x by omega]
  by_cases z : s.1 223 x = 0
  · rw [if_pos z]
    omega
  · rw [if_neg z]
    exact ⟨Int.emod_nonneg _ z, Int.le_of_lt (Int.emod_lt_of_pos _ (by omega))⟩
theorem sp_172 {R m K : Nat} {s : gx_S} (P : PR s R m) (S : SC s) (hK : 0 < K ∧ K ≤ 20000000000000000) (hd : ∀ r, r < R → s.1 223 r ≤ 1000000 ∧ (0 < s.1 223 r → (s.1 223 r).toNat ∣ K)) (hW : ∀ r, r < R → 0 ≤ loq s m r ∧ loq s m r ≤ 9) (hT : ∃ T, FE (Lq s R m K) (Oq s R m K) (Fq s R m) (Wq s R m) T) : ∃ u : gx_S, gm_172 s = some u ∧ rc s u ∧ SC u ∧ LG (Lq s R m K) (Oq s R m K) (Fq s R m) (Wq s R m) (fun i => if ins R m i then u.2 224 i - flq s i else 0) ∧ (∀ i, ¬ ins R m i → u.2 224 i = s.2 224 i) ∧ ∀ i, u.1 223 i = s.1 223 i := by
  obtain ⟨p1, p2, R8, m9, p5⟩ := id P
  obtain ⟨a, a1, a2, a3, a4, a5, a6, a7⟩ := sl_172_2 100000 0 s (by omega) (by omega) P
  have aR : ∀ d, d < m → RT a R d K := fun d hd' r hr => by
    rw [a2, (a4 r d (by omega) hr hd').2]
    have x := rsq_B P hr hd'
    have y := hd r hr
    exact ⟨x.1, x.2, y⟩
  obtain ⟨b, b1, b2, b3, b4, b5⟩ := sl_172_29 (K := K) R8 m9 hK 100000 0 a (by omega) (by omega) (by rw [a2]; exact p1) (by rw [a2]; exact p2) aR
  obtain ⟨d, d1, d2, d3, d4⟩ := sl_172_50 100000 0 b (by omega) (by omega)
  have a1 : gm_172_2 100000 0 s = _ := a1
  have b1 : gm_172_29 100000 0 a = _ := b1
  have d1 : gm_172_50 100000 0 b = _ := d1
  have dk : ∀ k i, k ≠ 233 → d.1 k i = s.1 k i := fun k i h => by rw [d3 k i h, b2, a2]
  have d24 : ∀ i, d.2 224 i = a.2 224 i := fun i => by rw [d2, b3 224 i (by omega) (by decide) (by decide)]
  have d25 : ∀ i, d.2 225 i = a.2 225 i := fun i => by rw [d2, b3 225 i (by omega) (by decide) (by decide)]
  have h5 : ∀ x y, x < R → y < m → d.2 225 (9 * x + y) = rsq s (9 * x + y) := fun x y hx hy => by rw [d25, (a4 x y (by omega) hx hy).2]
  have h6 : ∀ x, x < R → d.2 226 x = loq s m x := fun x hx => by rw [d2, b3 226 x (by omega) (by decide) (by decide), a5 x (by omega) hx]
  have eS : ∀ y, y < m → sg (rr a y K) R = Sq s R K y := fun y hy => sg_eq fun r hr => by
    unfold rr
    rw [a2, (a4 r y (by omega) hr hy).2]
  have h7 : ∀ y, y < m → d.2 227 y = Lq s R m K y ∧ d.2 228 y = Oq s R m K y := fun y hy => by
    obtain ⟨x1, x2⟩ := b4 y (by omega) hy
    rw [d2, x1, x2, eS y hy]
    exact ⟨(if_pos hy).symm, (if_pos hy).symm⟩
  have SB : ∀ y, y < m → 0 ≤ Sq s R K y / (K : Int) ∧ Sq s R K y / (K : Int) ≤ 8 := fun y hy => by
    rw [← eS y hy]
    refine div8 (by omega) (sg_nn fun r hr => (rr_B (aR y hy) r hr).1) ?_
    have q := sg_le (f := rr a y K) (g := fun _ => (K : Int) * 1) (n := R) fun k hk => by
      show rr a y K k ≤ (K : Int) * 1
      have := (rr_B (aR y hy) k hk).2
      omega
    rw [sg_mul, sg_one] at q
    have w : (K : Int) * (R : Int) ≤ K * 8 := Int.mul_le_mul_of_nonneg_left (by omega) (by omega)
    omega
  have d78 : ∀ y, y < 9 → (0 ≤ d.2 227 y ∧ d.2 227 y ≤ 9) ∧ 0 ≤ d.2 228 y ∧ d.2 228 y ≤ 9 := fun y hy => by
    by_cases q : y < m
    · obtain ⟨x1, x2⟩ := h7 y q
      have x3 := SB y q
      rw [x1, x2, show Lq s R m K y = _ from if_pos q, show Oq s R m K y = _ from if_pos q]
      split <;> omega
    · obtain ⟨x1, x2⟩ := b5 y (by omega)
      have x3 := S.2.1 y hy
      rw [d2, x1, x2, a3 227 y (by decide) (by decide) (by decide), a3 228 y (by decide) (by decide) (by decide)]
      exact x3.2.2.2
  have dB : RB d R m := by
    refine ⟨fun j hj => ⟨?_, ?_, ?_⟩, fun c hc => ?_, by rw [dk 215 17 (by decide)]; exact p1, by rw [dk 215 18 (by decide)]; exact p2, R8, m9⟩
    · rw [dk 232 j (by decide)]
      exact (S.1 j hj).1
    · rw [d4 j hj, if_pos (by omega)]
      exact .inl rfl
    · rw [d25]
      by_cases q : ins R m j
      · have e : 9 * (j / 9) + j % 9 = j := by omega
        have x := (a4 (j / 9) (j % 9) (by omega) q.1 q.2).2
        have y := rsq_B P q.1 q.2
        have w := PR_w P q.1
        rw [e] at x y
        omega
      · rw [(a6 j fun x y _ hx hy e => q (e ▸ ins_i hx hy m9)).2]
        exact (S.1 j hj).2.2.2
    · have x := S.2.1 c hc
      rw [dk 235 c (by decide), d2, b3 229 c (by omega) (by decide) (by decide), b3 230 c (by omega) (by decide) (by decide), a3 229 c (by decide) (by decide) (by decide), a3 230 c (by decide) (by decide) (by decide)]
      omega
  have dW : WB d := fun k hk => by
    rw [d2, b3 231 k (by omega) (by decide) (by decide), a3 231 k (by decide) (by decide) (by decide)]
    exact S.2.2 k hk
  have dC : C01 d := fun j hj => by
    rw [d4 j hj, if_pos (by omega), dk 234 j (by decide)]
    exact ⟨.inl rfl, (S.1 j hj).2.2.1⟩
  have ev0 : ∀ x y, ¬ ev 0 0 x y := fun x y => by unfold ev; omega
  obtain ⟨T, hT⟩ := hT
  have C0 : CI d d R m 0 0 := by
    refine ⟨⟨fun _ _ _ _ _ _ => rfl, fun _ _ _ _ _ _ => rfl⟩, ⟨dB, dW, dC⟩, fun x y hx hy => ⟨?_, fun h => ?_, ?_⟩, fun _ _ => rfl, ⟨T, FE_FEr R8 m9 h5 h6 h7 hT, fun x y _ _ h => absurd h (ev0 x y)⟩, fun _ _ x y _ _ h => absurd h (ev0 x y)⟩
    · rw [d4 _ (by omega), if_pos (by omega), if_neg (ev0 x y)]
    · rw [d4 _ (by omega), if_pos (by omega)] at h
      exact absurd h (by decide)
    · rw [if_neg (ev0 x y)]
      omega
  obtain ⟨t, t1, c1, ⟨cB, cW, cC⟩, c3, c4, ⟨T0, c5, c5'⟩, c6⟩ := sl_172_71 (fun r hr => by rw [h6 r hr]; exact hW r hr) d78 100000 0 d (by omega) (by omega) C0
  have t1 : gm_172_71 100000 0 d = _ := t1
  have eR : ∀ x y, x < R → ev R 0 x y := fun x y h => .inl h
  have tM : ∀ x y, x < R → y < m → t.2 224 (9 * x + y) - flq s (9 * x + y) = t.1 234 (9 * x + y) := fun x y hx hy => by
    have q := (c3 x y hx hy).2.2
    rw [if_pos (eR x y hx), d24, (a4 x y (by omega) hx hy).1] at q
    omega
  refine ⟨t, ?_, ⟨fun k i h1 h2 h3 h4 h5 => ?_, fun k i h1 h2 => ?_⟩, ⟨fun j hj => ?_, fun c hc => ?_, cW⟩, ⟨FE_c (FEr_FE R8 m9 h5 h6 h7 c5) (fun _ _ => rfl) (fun _ _ => rfl) (fun _ _ => rfl) (fun _ _ => rfl) fun i hi => ?_, fun T' hT' j hj hj' => ?_⟩, fun i h => ?_, fun i => ?_⟩
  · unfold gm_172
    rw [a1, b1, d1, t1]
  · rw [c1.1 k i h2 h3 h4 h5, dk k i h3]
  · rw [c1.2 k i (by omega) (by omega) (by omega) (by omega), d2, b3 k i h1 (by omega) (by omega), a3 k i (by omega) (by omega) (by omega)]
  · exact ⟨(cB.1 j hj).1, (cC j hj).1, (cC j hj).2, (cB.1 j hj).2.2⟩
  · have x := cB.2.1 c hc
    have y := d78 c hc
    rw [c1.2 227 c (by decide) (by decide) (by decide) (by decide), c1.2 228 c (by decide) (by decide) (by decide) (by decide)]
    exact ⟨x.1, ⟨x.2.1, x.2.2.1⟩, x.2.2.2, y⟩
  · show (if ins R m i then _ else _) = (if ins R m i then _ else _)
    by_cases q : ins R m i
    · have e : 9 * (i / 9) + i % 9 = i := by omega
      have x := tM (i / 9) (i % 9) q.1 q.2
      have y := c5' (i / 9) (i % 9) q.1 q.2 (eR _ _ q.1)
      rw [e] at x y
      rw [if_pos q, if_pos q, x, y]
    · rw [if_neg q, if_neg q]
  · show T' j ≤ (if ins R m j then _ else _)
    by_cases q : ins R m j
    · have e : 9 * (j / 9) + j % 9 = j := by omega
      have x := tM (j / 9) (j % 9) q.1 q.2
      have y := c6 T' (FE_FEr R8 m9 h5 h6 h7 hT') (j / 9) (j % 9) q.1 q.2 (eR _ _ q.1) fun x' y' hx' hy' h' => by
        have z := hj' (9 * x' + y') (by unfold ev at h'; omega)
        rw [z]
        show (if ins R m (9 * x' + y') then _ else _) = _
        rw [if_pos (ins_i hx' hy' m9), tM x' y' hx' hy']
      rw [e] at x y
      rw [if_pos q, x]
      exact y
    · rw [if_neg q]
      have z := (hT'.1 j hj).2
      rw [show Fq s R m j = 0 from if_neg fun x => q x.1] at z
      exact z
  · rw [c4 i fun x y hx hy e => h (e ▸ ins_i hx hy m9), d24, (a6 i fun x y _ hx hy e => h (e ▸ ins_i hx hy m9)).1]
  · rw [c1.1 223 i (by decide) (by decide) (by decide) (by decide), dk 223 i (by decide)]
end
section
/-! THE REFERENCE's TABLE: by remainders, beside the class's -/
theorem ct_4 {s : gx_S} {r m : Nat} (m9 : m ≤ 9) (i : Nat) : (ct s r m).2 224 i = if 9 * r ≤ i ∧ i < 9 * r + m then flq s i else s.2 224 i := by
  have e : (ct s r m).2 224 i = if (224 : Nat) = 224 ∧ 9 * r ≤ i ∧ i < 9 * r + m then (if s.1 223 r = 0 then 0 else s.2 221 r * s.1 222 i / s.1 223 r) else if (224 : Nat) = 225 ∧ 9 * r ≤ i ∧ i < 9 * r + m then (if s.1 223 r = 0 then 0 else s.2 221 r * s.1 222 i % s.1 223 r) else s.2 224 i := rfl
  rw [e]
  by_cases q : 9 * r ≤ i ∧ i < 9 * r + m
  · rw [if_pos ⟨rfl, q⟩, if_pos q]
    unfold flq
    rw [show i / 9 = r by omega]
  · rw [if_neg (fun x => q x.2), if_neg (by omega), if_neg q]
theorem ct_5 {s : gx_S} {r m : Nat} (m9 : m ≤ 9) (i : Nat) : (ct s r m).2 225 i = if 9 * r ≤ i ∧ i < 9 * r + m then rsq s i else s.2 225 i := by
  have e : (ct s r m).2 225 i = if (225 : Nat) = 224 ∧ 9 * r ≤ i ∧ i < 9 * r + m then (if s.1 223 r = 0 then 0 else s.2 221 r * s.1 222 i / s.1 223 r) else if (225 : Nat) = 225 ∧ 9 * r ≤ i ∧ i < 9 * r + m then (if s.1 223 r = 0 then 0 else s.2 221 r * s.1 222 i % s.1 223 r) else s.2 225 i := rfl
  rw [e, if_neg (by omega)]
  by_cases q : 9 * r ≤ i ∧ i < 9 * r + m
  · rw [if_pos ⟨rfl, q⟩, if_pos q]
    unfold rsq
    rw [show i / 9 = r by omega]
  · rw [if_neg (fun x => q x.2), if_neg q]
theorem ct_o (s : gx_S) (r m k i : Nat) (h1 : k ≠ 224) (h2 : k ≠ 225) : (ct s r m).2 k i = s.2 k i := by
  show (if k = 224 ∧ _ then _ else if k = 225 ∧ _ then _ else _) = _
  rw [if_neg (fun x => h1 x.1), if_neg (fun x => h2 x.1)]
theorem gvn_1 (r m : Nat) : ∀ (n : Nat) (s : gx_S), (gvn s r m n).1 = s.1
  | 0, _ => rfl
  | n + 1, s => gvn_1 r m n (gv1 s r m)
theorem gvn_o {r m : Nat} : ∀ (n : Nat) (s : gx_S), (n : Int) ≤ ps s r m → ∀ k i, ¬ ((k = 224 ∨ k = 225) ∧ 9 * r ≤ i ∧ i < 9 * r + m) → (gvn s r m n).2 k i = s.2 k i
  | 0, _, _, _, _, _ => rfl
  | n + 1, s, h, k, i, q => by
    have b := bs_of_ps (s := s) (r := r) (m := m) (by omega)
    have br := bs_r s r m
    have a := gvn_o (r := r) (m := m) n (gv1 s r m) (by rw [ps_gv1 b]; omega) k i q
    show (gvn (gv1 s r m) r m n).2 k i = _
    rw [a]
    unfold gv1
    rw [gw2_2, if_neg (by omega), gw2_2, if_neg (by omega)]
theorem gvn_r {r m : Nat} : ∀ (n : Nat) (s : gx_S) (i : Nat), 0 ≤ s.2 225 i ∧ s.2 225 i ≤ 1000000000 → 0 ≤ (gvn s r m n).2 225 i ∧ (gvn s r m n).2 225 i ≤ 1000000000
  | 0, _, _, h => h
  | n + 1, s, i, h => by
    refine gvn_r n (gv1 s r m) i ?_
    unfold gv1
    rw [gw2_2, gw2_2]
    split
    · omega
    · rw [if_neg (by omega)]
      exact h
theorem lo_ps {s : gx_S} {R m r : Nat} (P : PR s R m) (hr : r < R) : 0 ≤ loq s m r ∧ (((loq s m r).toNat : Nat) : Int) ≤ ps (ct s r m) r m ∧ loq s m r = if s.1 223 r = 0 then 0 else s.2 221 r - sg (fun c => s.2 221 r * s.1 222 (9 * r + c) / s.1 223 r) m := by
  have w := PR_w P hr
  obtain ⟨p1, p2, p3, m9, p5⟩ := P
  obtain ⟨a1, a2, a3⟩ := p5 r hr
  have e : ∀ c, c < 9 → flq s (9 * r + c) = if s.1 223 r = 0 then 0 else s.2 221 r * s.1 222 (9 * r + c) / s.1 223 r := fun c hc => by
    unfold flq
    rw [show (9 * r + c) / 9 = r by omega]
  by_cases q : s.1 223 r = 0
  · have z : loq s m r = 0 := if_pos q
    rw [z, if_pos q]
    have : 0 ≤ ps (ct s r m) r m := sg_nn fun k _ => (bi_r _).1
    exact ⟨Int.le_refl 0, this, rfl⟩
  · have z : loq s m r = s.2 221 r - sg (fun c => s.2 221 r * s.1 222 (9 * r + c) / s.1 223 r) m := by
      unfold loq
      rw [if_neg q, sg_eq (f := fun c => flq s (9 * r + c)) fun c hc => by rw [e c (by omega), if_neg q]]
    obtain ⟨l1, l2⟩ := left_ps a1.1 (show 0 < s.1 223 r by omega) (fun c hc => (a2 c hc).1) a3.symm
    have e4 : ps (ct s r m) r m = sg (fun c => bi (0 < s.2 221 r * s.1 222 (9 * r + c) % s.1 223 r)) m := sg_eq fun c hc => by
      rw [ct_5 m9, if_pos (by omega)]
      unfold rsq
      rw [show (9 * r + c) / 9 = r by omega, if_neg q]
    rw [z, if_neg q, e4]
    exact ⟨l1, by omega, rfl⟩
/-- a row of the class's table, cut, beside the reference's -/
def RA (v s : gx_S) (t m x : Nat) : Prop := (∀ c, c < m → v.1 (t + 6) (9 * x + c) = flq s (9 * x + c) ∧ v.1 (t + 8) (9 * x + c) = flq s (9 * x + c) ∧ v.1 (t + 7) (9 * x + c) = rsq s (9 * x + c)) ∧ ∀ c, m ≤ c → c < 9 → v.1 (t + 7) (9 * x + c) = 0
theorem sl_173_39 {v : gx_S} {t R m : Nat} : ∀ (n j : Nat) (s : gx_S), R < n + j → j ≤ R → PR s R m → (∀ x, x < R → RA v s t m x) → ∃ u : gx_S, gm_173_39 n j s = some u ∧ u.1 = s.1 ∧ (∀ k i, k ≠ 224 → k ≠ 225 → u.2 k i = s.2 k i) ∧ (∀ x y, j ≤ x → x < R → y < m → u.2 224 (9 * x + y) = (gcn v t x (loq s m x).toNat).1 (t + 8) (9 * x + y)) ∧ (∀ i, (∀ x y, j ≤ x → x < R → y < m → i ≠ 9 * x + y) → u.2 224 i = s.2 224 i ∧ u.2 225 i = s.2 225 i) ∧ ∀ i, 0 ≤ s.2 225 i ∧ s.2 225 i ≤ 1000000000 → 0 ≤ u.2 225 i ∧ u.2 225 i ≤ 1000000000 := by
  intro n
  induction n with
  | zero => intro j s h; omega
  | succ n ih =>
    intro j s h hj P A
    obtain ⟨p1, p2, p3, m9, p5⟩ := id P
    rw [gm_173_39, p1, if_pos (by omega), if_pos (by omega)]
    by_cases q : j = R
    · rw [if_pos (by omega)]
      exact ⟨s, rfl, rfl, fun _ _ _ _ => rfl, fun x y h1 h2 => by omega, fun i _ => ⟨rfl, rfl⟩, fun _ h => h⟩
    · have hR : j < R := by omega
      have ce : ((j : Int) + 1) = ((j + 1 : Nat) : Int) := rfl
      obtain ⟨a1, a2, a3⟩ := p5 j hR
      obtain ⟨l1, l2, l3⟩ := lo_ps P hR
      have w := PR_w P hR
      rw [if_neg (by omega), sp_163 (by omega) m9 p2 a1 a2 a3, Option.bind_some, ce, ← l3]
      obtain ⟨g, hg⟩ : ∃ g : gx_S, g = gvn (ct s j m) j m (loq s m j).toNat := ⟨_, rfl⟩
      rw [← hg]
      have rw0 : rw_ v (ct s j m) t j m := by
        obtain ⟨z1, z2⟩ := A j hR
        refine ⟨fun c hc => ?_, fun c hc => ?_, fun c h1 h2 => ?_⟩
        · rw [ct_4 m9, if_pos (by omega)]
          exact (z1 c hc).2.1
        · rw [ct_5 m9, if_pos (by omega)]
          obtain ⟨y1, y2, y3⟩ := z1 c hc
          unfold vc
          rw [if_pos (y2.trans y1.symm)]
          exact y3
        · unfold vc
          rw [z2 c h1 h2]
          split <;> rfl
      have rwn := rw_n m9 (loq s m j).toNat v (ct s j m) rw0 l2
      rw [← hg] at rwn
      have go := gvn_o (loq s m j).toNat (ct s j m) l2
      rw [← hg] at go
      have g1 : g.1 = s.1 := by rw [hg, gvn_1]; rfl
      have g2 : ∀ k i, k ≠ 224 → k ≠ 225 → g.2 k i = s.2 k i := fun k i h1 h2 => (go k i (by omega)).trans (ct_o s j m k i h1 h2)
      have g45 : ∀ i, ¬ (9 * j ≤ i ∧ i < 9 * j + m) → g.2 224 i = s.2 224 i ∧ g.2 225 i = s.2 225 i := fun i h => by
        rw [go 224 i (fun x => h x.2), go 225 i (fun x => h x.2), ct_4 m9, ct_5 m9, if_neg h, if_neg h]
        exact ⟨rfl, rfl⟩
      have g21 : ∀ i, g.2 221 i = s.2 221 i := fun i => g2 221 i (by decide) (by decide)
      have tf : ∀ i, flq g i = flq s i := fun i => by
        unfold flq
        rw [g1, g21]
      have tr : ∀ i, rsq g i = rsq s i := fun i => by
        unfold rsq
        rw [g1, g21]
      have tl : ∀ x, loq g m x = loq s m x := fun x => by
        unfold loq
        rw [g1, g21, sg_eq (f := fun c => flq g (9 * x + c)) (g := fun c => flq s (9 * x + c)) fun c _ => tf _]
      obtain ⟨u, u1, u2, u3, u4, u5, u6⟩ := ih (j + 1) g (by omega) (by omega) ⟨by rw [g1]; exact p1, by rw [g1]; exact p2, p3, m9, fun r hr => by
        rw [g1, g21]
        exact p5 r hr⟩ fun x hx => ⟨fun c hc => by rw [tf, tr]; exact (A x hx).1 c hc, (A x hx).2⟩
      refine ⟨u, u1, u2.trans g1, fun k i h1 h2 => (u3 k i h1 h2).trans (g2 k i h1 h2), fun x y h1 h2 h3 => ?_, fun i h => ?_, fun i h => u6 i ?_⟩
      · by_cases q' : x = j
        · rw [(u5 (9 * x + y) fun x' y' z1 z2 z3 => by omega).1, q']
          exact (rwn.1 y h3).symm
        · rw [u4 x y (by omega) h2 h3, tl]
      · obtain ⟨v1, v2⟩ := u5 i fun x' y' z1 z2 z3 => h x' y' (by omega) z2 z3
        obtain ⟨v3, v4⟩ := g45 i fun z => h j (i - 9 * j) (by omega) hR (by omega) (by omega)
        rw [v1, v2]
        exact ⟨v3, v4⟩
      · rw [hg]
        refine gvn_r _ _ i ?_
        rw [ct_5 m9]
        by_cases q' : 9 * j ≤ i ∧ i < 9 * j + m
        · rw [if_pos q']
          have e : 9 * j + (i - 9 * j) = i := by omega
          have b := rsq_B P hR (y := i - 9 * j) (by omega)
          rw [e] at b
          omega
        · rw [if_neg q']
          exact h
theorem sl_173_2 {R m : Nat} (R8 : R ≤ 8) (m9 : m ≤ 9) : ∀ (n j : Nat) (s : gx_S), R < n + j → j ≤ R → s.1 215 17 = R → s.1 215 18 = m → (-2147483648 ≤ s.1 216 3 ∧ s.1 216 3 ≤ 2147483647) → ∃ a : gx_S, gm_173_2 n j s = (if ¬ a.1 216 3 = 1 then gm_173_39 100000 0 a else (gm_172 a).bind fun q => some q) ∧ a.2 = s.2 ∧ (∀ k i, k ≠ 223 → a.1 k i = s.1 k i) ∧ (∀ x, j ≤ x → x < R → a.1 223 x = sg (fun c => s.1 222 (9 * x + c)) m) ∧ ∀ x, ¬ (j ≤ x ∧ x < R) → a.1 223 x = s.1 223 x := by
  intro n
  induction n with
  | zero => intro j s h; omega
  | succ n ih =>
    intro j s h hj e17 e18 e3
    rw [gm_173_2, e17, if_pos (by omega), if_pos (by omega)]
    by_cases q : j = R
    · rw [if_pos (by omega), if_pos e3]
      exact ⟨s, rfl, rfl, fun _ _ _ => rfl, fun x h1 h2 => by omega, fun _ _ => rfl⟩
    · have ce : ((j : Int) + 1) = ((j + 1 : Nat) : Int) := rfl
      rw [if_neg (by omega), sp_161 (by omega) m9 e18, Option.bind_some, ce]
      have g : ∀ k i, k ≠ 223 → (gw1 s 223 j (sg (fun c => s.1 222 (9 * j + c)) m)).1 k i = s.1 k i := fun k i h => by rw [gw1_1, if_neg (fun x => h x.1)]
      obtain ⟨a, a1, a2, a3, a4, a5⟩ := ih (j + 1) (gw1 s 223 j (sg (fun c => s.1 222 (9 * j + c)) m)) (by omega) (by omega) (by rw [g 215 17 (by decide)]; exact e17) (by rw [g 215 18 (by decide)]; exact e18) (by rw [g 216 3 (by decide)]; exact e3)
      refine ⟨a, a1, a2, fun k i h => (a3 k i h).trans (g k i h), fun x h1 h2 => ?_, fun x h1 => ?_⟩
      · by_cases q' : x = j
        · rw [a5 x (by omega), gw1_1, if_pos ⟨rfl, q'⟩, q']
        · rw [a4 x (by omega) h2]
          exact sg_eq fun c _ => g 222 _ (by decide)
      · rw [a5 x (by omega), gw1_1, if_neg (by omega)]
end
section
/-! BOTH TABLES: the class's round and the reference's fills give the same -/
theorem gc1_z {s : gx_S} {t r c : Nat} (hc : c < 9) (h : s.1 (t + 7) (9 * r + c) ≤ 0) : (gc1 s t r).1 (t + 8) (9 * r + c) = s.1 (t + 8) (9 * r + c) := by
  unfold gc1
  by_cases z : bst (vc s t r) 9 = -1
  · rw [if_pos z]
  · have br := bst_r (vc s t r) 9
    have p := bst_pos (v := vc s t r) (m := 9) (by omega)
    rw [if_neg z, gw1_1]
    by_cases e : (bst (vc s t r) 9).toNat = c
    · rw [e] at p
      unfold vc at p
      split at p <;> omega
    · rw [if_neg (fun x => e (by omega))]
theorem gcn_z {t r c : Nat} (hc : c < 9) : ∀ (n : Nat) (s : gx_S), s.1 (t + 7) (9 * r + c) ≤ 0 → (gcn s t r n).1 (t + 8) (9 * r + c) = s.1 (t + 8) (9 * r + c)
  | 0, _, _ => rfl
  | n + 1, s, h => by
    show (gcn (gc1 s t r) t r n).1 (t + 8) (9 * r + c) = _
    rw [gcn_z hc n (gc1 s t r) (by rw [gc1_o s t r (t + 7) _ (by omega)]; exact h), gc1_z hc h]
theorem gvn_sum {r m : Nat} (m9 : m ≤ 9) : ∀ (n : Nat) (s : gx_S), (n : Int) ≤ ps s r m → sg (fun c => (gvn s r m n).2 224 (9 * r + c)) m = sg (fun c => s.2 224 (9 * r + c)) m + n
  | 0, s, _ => (Int.add_zero _).symm
  | n + 1, s, h => by
    have b := bs_of_ps (s := s) (r := r) (m := m) (by omega)
    have br := bs_r s r m
    have a := gvn_sum (r := r) m9 n (gv1 s r m) (by rw [ps_gv1 b]; omega)
    show sg (fun c => (gvn (gv1 s r m) r m n).2 224 (9 * r + c)) m = _
    rw [a, sg_updn (f := fun c => s.2 224 (9 * r + c)) (g := fun c => (gv1 s r m).2 224 (9 * r + c)) (i := (bs s r m).toNat) (x := 1) (by omega) (by
      show (gv1 s r m).2 224 (9 * r + (bs s r m).toNat) = s.2 224 (9 * r + (bs s r m).toNat) + 1
      unfold gv1
      rw [gw2_2, if_neg (by omega), gw2_2, if_pos ⟨rfl, rfl⟩]) (fun d h1 h2 => by
      show (gv1 s r m).2 224 (9 * r + d) = s.2 224 (9 * r + d)
      unfold gv1
      rw [gw2_2, if_neg (by omega), gw2_2, if_neg (by omega)])]
    omega
theorem RA_rw {v s : gx_S} {t m x : Nat} (m9 : m ≤ 9) (A : RA v s t m x) : rw_ v (ct s x m) t x m := by
  obtain ⟨z1, z2⟩ := A
  refine ⟨fun c hc => ?_, fun c hc => ?_, fun c h1 h2 => ?_⟩
  · rw [ct_4 m9, if_pos (by omega)]
    exact (z1 c hc).2.1
  · rw [ct_5 m9, if_pos (by omega)]
    obtain ⟨y1, y2, y3⟩ := z1 c hc
    unfold vc
    rw [if_pos (y2.trans y1.symm)]
    exact y3
  · unfold vc
    rw [z2 c h1 h2]
    split <;> rfl
/-- the class's table, filled, beside the reference's -/
def AL (c r : gx_S) (t R m : Nat) : Prop := r.1 215 17 = R ∧ r.1 215 18 = m ∧ R ≤ 8 ∧ m ≤ 9 ∧ (∀ x, x < R → r.2 221 x = c.1 (t + 1) x) ∧ (∀ x y, x < R → y < m → r.1 222 (9 * x + y) = am c t x y) ∧ ∀ x y, x < 8 → y < 9 → ¬ (x < R ∧ y < m) → am c t x y = 0
/-- what the class's round leaves alone -/
def ro7 (t : Nat) (c u : gx_S) : Prop := u.2 = c.2 ∧ ∀ k i, ¬ (7 ≤ k ∧ k ≤ 13) → ¬ (k = 6 ∧ i = 7) → ¬ ((k = t + 2 ∨ k = t + 3) ∧ i < 8) → ¬ ((k = t + 4 ∨ k = t + 6 ∨ k = t + 7 ∨ k = t + 8) ∧ i < 72) → u.1 k i = c.1 k i
theorem tab_eq {c r : gx_S} {t R m : Nat} {md : Int} (ht : fx_oc t 7 = true) (h : tf c t) (h8 : md = 1 → sg (aw c t) 8 ≤ 864) (A : AL c r t R m) (S : SC r) (e3 : r.1 216 3 = md) (hmd : md = 0 ∨ md = 1) : ∃ u w : gx_S, gm_41 t md c = some u ∧ gm_173 r = some w ∧ (∀ x y, x < R → y < m → u.1 (t + 8) (9 * x + y) = w.2 224 (9 * x + y)) ∧ (∀ x y, x < 8 → y < 9 → ¬ (x < R ∧ y < m) → u.1 (t + 8) (9 * x + y) = 0) ∧ ro7 t c u ∧ (∀ x, x < 8 → u.1 (t + 2) x = aw c t x ∧ ∀ y, y < 9 → u.1 (t + 4) (9 * x + y) = am c t x y ∧ u.1 (t + 6) (9 * x + y) = af c t x y ∧ u.1 (t + 7) (9 * x + y) = ar c t x y ∧ (af c t x y ≤ u.1 (t + 8) (9 * x + y) ∧ u.1 (t + 8) (9 * x + y) ≤ af c t x y + 9)) ∧ rc r w ∧ SC w ∧ (∀ x, x < R → w.1 223 x = aw c t x) ∧ (∀ x, x < 8 → sg (fun y => u.1 (t + 8) (9 * x + y)) 9 = if aw c t x ≤ 0 then 0 else c.1 (t + 1) x) ∧ ∀ x, x < 8 → u.1 (t + 3) x = pl c t x := by
  have t14 := oc7_14 ht
  obtain ⟨A1, A2, R8, m9, A5, A6, A7⟩ := A
  obtain ⟨v, v1, v2, v3, v4, v5, v6⟩ := sp_70 ht h
  obtain ⟨a, a1, a2, a3, a4, a5⟩ := sl_173_2 R8 m9 100000 0 r (by omega) (by omega) A1 A2 (by rcases hmd with e | e <;> omega)
  have a1 : gm_173_2 100000 0 r = _ := a1
  have aww : ∀ x, x < R → a.1 223 x = aw c t x := fun x hx => by
    rw [a4 x (by omega) hx]
    unfold aw
    rw [sg_cut0 m9 fun k h1 h2 => A7 x k (by omega) h2 (by omega)]
    exact sg_eq fun y hy => A6 x y hx hy
  have aw0 : ∀ x, R ≤ x → x < 8 → aw c t x = 0 := fun x h1 h2 => sg_0 fun y hy => A7 x y h2 hy (by omega)
  have P : PR a R m := by
    refine ⟨by rw [a3 215 17 (by decide)]; exact A1, by rw [a3 215 18 (by decide)]; exact A2, R8, m9, fun x hx => ⟨?_, fun y hy => ?_, ?_⟩⟩
    · rw [a2, A5 x hx]
      have := (h.1 x (by omega)).1
      omega
    · rw [a3 222 _ (by decide), A6 x y hx hy]
      have b := aw_r h (show x < 8 by omega)
      have q := sg_at (f := fun y => am c t x y) (n := 9) (fun k hk => b.2.2 k hk) y (by omega)
      have e : sg (fun y => am c t x y) 9 = aw c t x := rfl
      exact ⟨b.2.2 y (by omega), by omega⟩
    · rw [a4 x (by omega) hx]
      exact sg_eq fun y _ => (a3 222 _ (by decide)).symm
  have fq : ∀ x y, x < R → y < m → af c t x y = flq a (9 * x + y) ∧ ar c t x y = rsq a (9 * x + y) := fun x y hx hy => by
    have b := (aw_r h (show x < 8 by omega)).1
    unfold af ar flq rsq
    rw [show (9 * x + y) / 9 = x by omega, aww x hx, a2, A5 x hx, a3 222 _ (by decide), A6 x y hx hy]
    by_cases z : aw c t x ≤ 0
    · rw [if_pos z, if_pos z, if_pos (by omega), if_pos (by omega)]
      exact ⟨rfl, rfl⟩
    · rw [if_neg z, if_neg z, if_neg (by omega), if_neg (by omega)]
      exact ⟨rfl, rfl⟩
  have f0 : ∀ x y, x < 8 → y < 9 → ¬ (x < R ∧ y < m) → af c t x y = 0 ∧ ar c t x y = 0 := fun x y hx hy hn => by
    unfold af ar
    rw [A7 x y hx hy hn, Int.mul_zero]
    by_cases z : aw c t x ≤ 0
    · rw [if_pos z, if_pos z]
      exact ⟨rfl, rfl⟩
    · rw [if_neg z, if_neg z]
      exact ⟨Int.zero_ediv _, Int.zero_emod _⟩
  have lq : ∀ x, x < R → lo v t x = loq a m x := fun x hx => by
    have b := (aw_r h (show x < 8 by omega)).1
    rw [(v4 x (by omega)).2.1]
    unfold loq
    rw [aww x hx, a2, A5 x hx, sg_cut0 m9 fun k h1 h2 => (f0 x k (by omega) h2 (by omega)).1, sg_eq (g := fun y => flq a (9 * x + y)) fun y hy => (fq x y hx hy).1]
    by_cases z : aw c t x ≤ 0
    · rw [if_pos z, if_pos (by omega)]
    · rw [if_neg z, if_neg (by omega)]
  have l0 : ∀ x, R ≤ x → x < 8 → lo v t x = 0 := fun x h1 h2 => by
    rw [(v4 x h2).2.1, aw0 x h1 h2]
    rfl
  have Sa : SC a := ⟨fun j hj => by rw [a2, a3 232 j (by decide), a3 233 j (by decide), a3 234 j (by decide)]; exact S.1 j hj, fun d hd => by rw [a2, a3 235 d (by decide)]; exact S.2.1 d hd, fun k hk => by rw [a2]; exact S.2.2 k hk⟩
  have a16 : a.1 216 3 = md := by rw [a3 216 3 (by decide)]; exact e3
  have ra : ∀ w : gx_S, rc a w → rc r w := fun w W => ⟨fun k i h1 h2 h3 h4 h5 => (W.1 k i h1 h2 h3 h4 h5).trans (a3 k i h1), fun k i h1 h2 => (W.2 k i h1 h2).trans (by rw [a2])⟩
  have vv : ∀ (u : gx_S) (x : Nat), x < 8 → (∀ k i, k = t + 2 ∨ k = t + 4 ∨ k = t + 6 ∨ k = t + 7 → u.1 k i = v.1 k i) → (∀ y, y < 9 → v.1 (t + 8) (9 * x + y) ≤ u.1 (t + 8) (9 * x + y) ∧ u.1 (t + 8) (9 * x + y) ≤ v.1 (t + 8) (9 * x + y) + 9) → u.1 (t + 2) x = aw c t x ∧ ∀ y, y < 9 → u.1 (t + 4) (9 * x + y) = am c t x y ∧ u.1 (t + 6) (9 * x + y) = af c t x y ∧ u.1 (t + 7) (9 * x + y) = ar c t x y ∧ (af c t x y ≤ u.1 (t + 8) (9 * x + y) ∧ u.1 (t + 8) (9 * x + y) ≤ af c t x y + 9) := fun u x hx e b => by
    obtain ⟨w1, w2, w3⟩ := v4 x hx
    refine ⟨by rw [e _ _ (by omega)]; exact w1, fun y hy => ?_⟩
    obtain ⟨x1, x2, x3, x4⟩ := w3 y hy
    have := b y hy
    rw [x4] at this
    exact ⟨by rw [e _ _ (by omega)]; exact x1, by rw [e _ _ (by omega)]; exact x2, by rw [e _ _ (by omega)]; exact x3, this⟩
  have unf : gm_173 r = gm_173_2 100000 0 r := rfl
  rcases hmd with q | q
  · obtain ⟨v', u, w1, u1, u2, u3, u4, u5⟩ := sp_41_0 ht h
    have ev : v' = v := Option.some.inj (w1.symm.trans v1)
    rw [ev] at u2 u3 u4 u5
    have RAx : ∀ x, x < R → RA v a t m x := fun x hx => ⟨fun y hy => by
      obtain ⟨y1, y2, y3, y4⟩ := (v4 x (by omega)).2.2 y (by omega)
      obtain ⟨z1, z2⟩ := fq x y hx hy
      exact ⟨y2.trans z1, y4.trans z1, y3.trans z2⟩, fun y h1 h2 => ((v4 x (by omega)).2.2 y h2).2.2.1.trans (f0 x y (by omega) h2 (by omega)).2⟩
    obtain ⟨w, x1, x2, x3, x4, x5, x6⟩ := sl_173_39 (v := v) (t := t) 100000 0 a (by omega) (by omega) P RAx
    have x1 : gm_173_39 100000 0 a = _ := x1
    have gB : ∀ (n : Nat) (s : gx_S) (x j : Nat), s.1 (t + 8) j ≤ (gcn s t x n).1 (t + 8) j ∧ (gcn s t x n).1 (t + 8) j ≤ s.1 (t + 8) j + n := by
      intro n
      induction n with
      | zero =>
        intro s x j
        show s.1 (t + 8) j ≤ s.1 (t + 8) j ∧ s.1 (t + 8) j ≤ s.1 (t + 8) j + ((0 : Nat) : Int)
        omega
      | succ n ih =>
        intro s x j
        have i1 := ih (gc1 s t x) x j
        have i2 := gc1_8 s t x j
        show s.1 (t + 8) j ≤ (gcn (gc1 s t x) t x n).1 (t + 8) j ∧ (gcn (gc1 s t x) t x n).1 (t + 8) j ≤ s.1 (t + 8) j + ((n + 1 : Nat) : Int)
        omega
    have out0 : ∀ x y, x < 8 → y < 9 → ¬ (x < R ∧ y < m) → u.1 (t + 8) (9 * x + y) = 0 := fun x y hx hy hn => by
      rw [u3 x y hx hy]
      obtain ⟨w1, w2, w3⟩ := v4 x hx
      obtain ⟨y1, y2, y3, y4⟩ := w3 y hy
      obtain ⟨z1, z2⟩ := f0 x y hx hy hn
      rw [gcn_z hy _ v (by rw [y3, z2]; omega), y4, z1]
    refine ⟨u, w, by rw [q]; exact u1, ?_, fun x y hx hy => ?_, out0, ⟨u2.trans v2, fun k i h1 h2 h3 h4 => ?_⟩, fun x hx => vv u x hx (fun k i hk => u4 k i (by omega)) fun y hy => ?_, ra w ⟨fun k i _ _ _ _ _ => by rw [x2], fun k i h1 h2 => x3 k i (by omega) (by omega)⟩, ⟨fun j hj => ?_, fun d hd => ?_, fun k hk => ?_⟩, fun x hx => ?_, fun x hx => ?_, fun x hx => (u4 _ _ (by omega)).trans (v6 x hx)⟩
    · rw [unf, a1, a16, if_pos (by omega), x1]
    · rw [u3 x y (by omega) (by omega), x4 x y (by omega) hx hy, lq x hx]
    · by_cases e : k = t + 8
      · rw [e, u5 i (by omega), v5 (t + 8) i (by omega) (by omega)]
      · rw [u4 k i e, v5 k i h3 (by omega)]
    · rw [u3 x y hx hy]
      have l := lo_r v3 hx
      have g := gB (lo v t x).toNat v x (9 * x + y)
      omega
    · have s1 := Sa.1 j hj
      rw [x2]
      exact ⟨s1.1, s1.2.1, s1.2.2.1, x6 j s1.2.2.2⟩
    · rw [x2, x3 229 d (by decide) (by decide), x3 230 d (by decide) (by decide), x3 227 d (by decide) (by decide), x3 228 d (by decide) (by decide)]
      exact Sa.2.1 d hd
    · rw [x3 231 k (by decide) (by decide)]
      exact Sa.2.2 k hk
    · rw [x2]
      exact aww x hx
    · by_cases z : x < R
      · obtain ⟨l1, l2, l3⟩ := lo_ps P z
        have rwn := rw_n m9 (loq a m x).toNat v (ct a x m) (RA_rw m9 (RAx x z)) l2
        have e1 : sg (fun y => u.1 (t + 8) (9 * x + y)) 9 = sg (fun y => (gvn (ct a x m) x m (loq a m x).toNat).2 224 (9 * x + y)) m := by
          rw [sg_cut0 m9 fun k h1 h2 => out0 x k hx h2 (by omega)]
          exact sg_eq fun y hy => by rw [u3 x y hx (by omega), lq x z]; exact rwn.1 y hy
        have e2 : sg (fun y => (ct a x m).2 224 (9 * x + y)) m = sg (fun y => flq a (9 * x + y)) m := sg_eq fun y hy => by rw [ct_4 m9, if_pos (by omega)]
        have b := (aw_r h hx).1
        rw [e1, gvn_sum m9 _ _ l2, e2, ← A5 x z, ← a2, ← aww x z]
        have e3 : ((loq a m x).toNat : Int) = loq a m x := by omega
        rw [e3]
        have w0 := PR_w P z
        by_cases z0 : a.1 223 x = 0
        · rw [if_pos (by omega), show loq a m x = 0 from if_pos z0, sg_0 fun y hy => by
            unfold flq
            rw [show (9 * x + y) / 9 = x by omega, if_pos z0]]
          rfl
        · rw [if_neg (by omega), show loq a m x = _ from if_neg z0]
          omega
      · rw [sg_0 fun y hy => out0 x y hx hy (by omega), aw0 x (by omega) hx, if_pos (Int.le_refl 0)]
  · obtain ⟨v', u, w1, u1, u2, u3, u4, u5⟩ := sp_41_1 ht h (h8 q)
    have ev : v' = v := Option.some.inj (w1.symm.trans v1)
    rw [ev] at u2 u3 u4 u5
    have vt : ∀ k, k < 8 → v.1 (t + 2) k = aw c t k := fun k hk => (v4 k hk).1
    have hs : sg (v.1 (t + 2)) 8 ≤ 864 := by
      rw [sg_eq (g := aw c t) fun k hk => vt k hk]
      exact h8 q
    have hK0 := cm_pos (v.1 (t + 2)) 8
    have hKB := cm_B (v := v.1 (t + 2)) (fun k hk => by rw [vt k hk]; exact (aw_r h hk).1) hs (Nat.le_refl 8)
    have hdv : ∀ x, x < R → a.1 223 x ≤ 1000000 ∧ (0 < a.1 223 x → (a.1 223 x).toNat ∣ cm (v.1 (t + 2)) 8) := fun x hx => by
      rw [aww x hx]
      refine ⟨(aw_r h (by omega)).2.1, fun p => ?_⟩
      rw [← vt x (by omega)] at p ⊢
      exact cm_dvd (by omega) p
    have eS : ∀ y, y < m → ro v t y (cm (v.1 (t + 2)) 8 : Nat) = Sq a R (cm (v.1 (t + 2)) 8 : Nat) y := fun y hy => by
      unfold ro Sq
      rw [sg_cut0 R8 fun k h1 h2 => by rw [vt k h2, aw0 k h1 h2]; rfl]
      refine sg_eq fun x hx => ?_
      obtain ⟨y1, y2, y3, y4⟩ := (v4 x (by omega)).2.2 y (by omega)
      show (if v.1 (t + 2) x ≤ 0 then 0 else v.1 (t + 7) (9 * x + y) * _) = _
      rw [y3, (fq x y hx hy).2, vt x (by omega), ← aww x hx]
      have b := PR_w P hx
      have g := rsq_B P hx hy
      by_cases z : a.1 223 x ≤ 0
      · rw [if_pos z, if_pos (by omega)]
      · rw [if_neg z]
        by_cases z2 : rsq a (9 * x + y) ≤ 0
        · rw [if_pos z2, show rsq a (9 * x + y) = 0 by omega, Int.zero_mul]
        · rw [if_neg z2]
    have e0 : ∀ y, m ≤ y → y < 9 → ro v t y (cm (v.1 (t + 2)) 8 : Nat) = 0 := fun y h1 h2 => sg_0 fun x hx => by
      obtain ⟨y1, y2, y3, y4⟩ := (v4 x hx).2.2 y h2
      rw [y3, (f0 x y hx h2 (by omega)).2, Int.zero_mul]
      split <;> rfl
    have eL : ∀ y, y < 9 → ls v t y = Lq a R m (cm (v.1 (t + 2)) 8 : Nat) y ∧ ms v t y = Oq a R m (cm (v.1 (t + 2)) 8 : Nat) y := fun y hy => by
      unfold ms ls Lq Oq
      by_cases z : y < m
      · rw [if_pos z, if_pos z, eS y z]
        exact ⟨rfl, rfl⟩
      · rw [if_neg z, if_neg z, e0 y (by omega) hy, Int.zero_ediv, Int.zero_emod]
        exact ⟨rfl, rfl⟩
    have eF : ∀ i, i < 72 → fr v t i = Fq a R m i := fun i hi => by
      have e : 9 * (i / 9) + i % 9 = i := by omega
      obtain ⟨y1, y2, y3, y4⟩ := (v4 (i / 9) (by omega)).2.2 (i % 9) (by omega)
      rw [e] at y3
      unfold fr Fq
      rw [y3]
      by_cases z : ins R m i
      · have z2 := (fq (i / 9) (i % 9) z.1 z.2).2
        rw [e] at z2
        rw [z2]
        by_cases z3 : rsq a i ≤ 0
        · rw [if_pos z3, if_neg (by omega)]
        · rw [if_neg z3, if_pos ⟨z, by omega⟩]
      · rw [(f0 (i / 9) (i % 9) (by omega) (by omega) z).2, if_pos (Int.le_refl 0), if_neg (fun x => z x.1)]
    have eW : ∀ x, x < 8 → lo v t x = Wq a R m x := fun x hx => by
      unfold Wq
      by_cases z : x < R
      · rw [if_pos z, lq x z]
      · rw [if_neg z, l0 x (by omega) hx]
    have LGa := LG_c u2 (fun y hy => (eL y hy).1.symm) (fun y hy => (eL y hy).2.symm) (fun i hi => (eF i hi).symm) (fun x hx => (eW x hx).symm) (fun i _ => (rfl : u.1 8 i = u.1 8 i))
    obtain ⟨w, x1, x2, x3, x4, x5, x6⟩ := sp_172 P Sa ⟨hK0, hKB⟩ hdv (fun x hx => by rw [← lq x hx]; exact lo_r v3 (by omega)) ⟨_, LGa.1⟩
    have un := LG_un LGa x4
    have u8 : ∀ x y, x < 8 → y < 9 → u.1 (t + 8) (9 * x + y) = af c t x y + u.1 8 (9 * x + y) := fun x y hx hy => by
      rw [u4 _ (by omega), ((v4 x hx).2.2 y hy).2.1]
    have u01 : ∀ i, i < 72 → 0 ≤ u.1 8 i ∧ u.1 8 i ≤ 1 := fun i hi => by
      have := (u2.1.1 i hi).1
      omega
    refine ⟨u, w, by rw [q]; exact u1, ?_, fun x y hx hy => ?_, fun x y hx hy hn => ?_, ⟨u3.1.trans v2, fun k i h1 h2 h3 h4 => ?_⟩, fun x hx => vv u x hx (fun k i hk => u3.2 k i (by omega) (by omega) (by omega)) fun y hy => ?_, ra w x2, x3, fun x hx => by rw [x6]; exact aww x hx, fun x hx => ?_, fun x hx => (u3.2 _ _ (by omega) (by omega) (by omega)).trans (v6 x hx)⟩
    · rw [unf, a1, a16, if_neg (by omega), x1]
      rfl
    · have z := un (9 * x + y) (by omega)
      have z' : u.1 8 (9 * x + y) = if ins R m (9 * x + y) then w.2 224 (9 * x + y) - flq a (9 * x + y) else 0 := z
      rw [if_pos (ins_i hx hy m9)] at z'
      rw [u8 x y (by omega) (by omega), (fq x y hx hy).1, z']
      omega
    · have z := un (9 * x + y) (by omega)
      have z' : u.1 8 (9 * x + y) = if ins R m (9 * x + y) then w.2 224 (9 * x + y) - flq a (9 * x + y) else 0 := z
      rw [if_neg (by unfold ins; omega)] at z'
      rw [u8 x y hx hy, z', (f0 x y hx hy hn).1]
      rfl
    · by_cases e : k = t + 8
      · rw [e, u5 i (by omega), v5 (t + 8) i (by omega) (by omega)]
      · rw [u3.2 k i (by omega) h2 e, v5 k i h3 (by omega)]
    · have b := u01 (9 * x + y) (by omega)
      rw [u8 x y hx hy, ((v4 x hx).2.2 y hy).2.2.2]
      omega
    · have e1 := sg_add (fun y => af c t x y) (fun y => u.1 8 (9 * x + y)) 9
      rw [sg_eq (f := fun y => u.1 (t + 8) (9 * x + y)) (g := fun y => af c t x y + u.1 8 (9 * x + y)) fun y hy => u8 x y hx hy, e1, u2.1.2.1 x hx, (v4 x hx).2.1]
      by_cases z : aw c t x ≤ 0
      · rw [if_pos z, if_pos z, sg_0 (f := fun y => af c t x y) fun y _ => if_pos z]
        rfl
      · rw [if_neg z, if_neg z]
        omega
end
section
/-! TABLES as numbers: what both sides lay and round for people P and amounts A -/
/-- the class's table with these people and amounts, and nothing else -/
def cc (P : Nat → Int) (A : Nat → Nat → Int) : gx_S := (fun k j => if k = 75 then P j else if k = 78 then A (j / 9) (j % 9) else if k = 79 then A (j / 9) (j % 9) else 0, fun _ _ => 0)
/-- the reference's -/
def rr0 (md : Int) (P : Nat → Int) (A : Nat → Nat → Int) : gx_S := (fun k j => if k = 222 then A (j / 9) (j % 9) else if k = 215 ∧ j = 17 then 8 else if k = 215 ∧ j = 18 then 9 else if k = 216 then md else 0, fun k j => if k = 221 then P j else 0)
def TB (md : Int) (P : Nat → Int) (A : Nat → Nat → Int) (x y : Nat) : Int := match gm_41 74 md (cc P A) with
  | some u => u.1 82 (9 * x + y)
  | none => 0
def PA (P : Nat → Int) (A : Nat → Nat → Int) : Prop := (∀ x, x < 8 → 0 ≤ P x ∧ P x ≤ 100000000) ∧ (∀ x y, x < 8 → y < 9 → 0 ≤ A x y ∧ A x y ≤ 1000000) ∧ sg (fun x => sg (fun y => A x y) 9) 8 ≤ 1000000
theorem am_of {c : gx_S} {t x : Nat} {A : Nat → Nat → Int} (h : ∀ y, y < 9 → am c t x y = A x y) : aw c t x = sg (fun y => A x y) 9 := sg_eq h
theorem cc_am (P : Nat → Int) (A : Nat → Nat → Int) {x y : Nat} (hy : y < 9) : am (cc P A) 74 x y = A x y := by
  have e4 : ∀ y, y < 9 → (cc P A).1 (74 + 4) (9 * x + y) = A x y := fun y hy => by
    show A ((9 * x + y) / 9) ((9 * x + y) % 9) = _
    rw [show (9 * x + y) / 9 = x by omega, show (9 * x + y) % 9 = y by omega]
  have e5 : ∀ y, y < 9 → (cc P A).1 (74 + 5) (9 * x + y) = A x y := fun y hy => by
    show A ((9 * x + y) / 9) ((9 * x + y) % 9) = _
    rw [show (9 * x + y) / 9 = x by omega, show (9 * x + y) % 9 = y by omega]
  unfold am
  rw [e4 y hy, e5 y hy]
  split <;> rfl
theorem tf_of {c : gx_S} {t : Nat} {P : Nat → Int} {A : Nat → Nat → Int} (h : PA P A) (hp : ∀ x, x < 8 → c.1 (t + 1) x = P x) (hb : ∀ i, i < 72 → (0 ≤ c.1 (t + 4) i ∧ c.1 (t + 4) i ≤ 1000000) ∧ (0 ≤ c.1 (t + 5) i ∧ c.1 (t + 5) i ≤ 1000000)) (ha : ∀ x y, x < 8 → y < 9 → am c t x y = A x y) : tf c t := by
  refine ⟨fun r hr => ⟨by rw [hp r hr]; exact h.1 r hr, fun c hc => hb _ (by omega)⟩, ?_⟩
  rw [sg_eq (g := fun x => sg (fun y => A x y) 9) fun x hx => am_of fun y hy => ha x y hx hy]
  exact h.2.2
theorem cc_tf {P : Nat → Int} {A : Nat → Nat → Int} (h : PA P A) : tf (cc P A) 74 :=
  tf_of h (fun _ _ => rfl) (fun i hi => ⟨h.2.1 (i / 9) (i % 9) (by omega) (by omega), h.2.1 (i / 9) (i % 9) (by omega) (by omega)⟩) fun x y _ hy => cc_am P A hy
theorem rr0_SC (md : Int) (P : Nat → Int) (A : Nat → Nat → Int) : SC (rr0 md P A) :=
  ⟨fun j _ => ⟨.inl rfl, .inl rfl, .inl rfl, by show (0 : Int) ≤ 0 ∧ (0 : Int) ≤ 1000000000; omega⟩, fun c _ => ⟨.inl rfl, by show (-900 : Int) ≤ 0 ∧ (0 : Int) ≤ 900; omega, by show (-1000 : Int) ≤ 0 ∧ (0 : Int) ≤ 1000; omega, by show (0 : Int) ≤ 0 ∧ (0 : Int) ≤ 9; omega, by show (0 : Int) ≤ 0 ∧ (0 : Int) ≤ 9; omega⟩, fun k _ => by show (-1000 : Int) ≤ 0 ∧ (0 : Int) ≤ 1000; omega⟩
theorem rr0_AL {md : Int} {P : Nat → Int} {A : Nat → Nat → Int} {c : gx_S} {t : Nat} (hp : ∀ x, x < 8 → c.1 (t + 1) x = P x) (ha : ∀ x y, x < 8 → y < 9 → am c t x y = A x y) : AL c (rr0 md P A) t 8 9 := by
  refine ⟨rfl, rfl, Nat.le_refl 8, Nat.le_refl 9, fun x hx => (hp x hx).symm, fun x y hx hy => ?_, fun x y hx hy hn => absurd ⟨hx, hy⟩ hn⟩
  rw [ha x y hx hy]
  show A ((9 * x + y) / 9) ((9 * x + y) % 9) = _
  rw [show (9 * x + y) / 9 = x by omega, show (9 * x + y) % 9 = y by omega]
/-- the class's round lays it -/
theorem TB_class {md : Int} {P : Nat → Int} {A : Nat → Nat → Int} {c : gx_S} {t : Nat} (ht : fx_oc t 7 = true) (hmd : md = 0 ∨ md = 1) (h : PA P A) (h8 : md = 1 → sg (fun x => sg (fun y => A x y) 9) 8 ≤ 864) (hp : ∀ x, x < 8 → c.1 (t + 1) x = P x) (hb : ∀ i, i < 72 → (0 ≤ c.1 (t + 4) i ∧ c.1 (t + 4) i ≤ 1000000) ∧ (0 ≤ c.1 (t + 5) i ∧ c.1 (t + 5) i ≤ 1000000)) (ha : ∀ x y, x < 8 → y < 9 → am c t x y = A x y) : ∃ u : gx_S, gm_41 t md c = some u ∧ (∀ x y, x < 8 → y < 9 → u.1 (t + 8) (9 * x + y) = TB md P A x y) ∧ ro7 t c u ∧ (∀ x, x < 8 → u.1 (t + 2) x = sg (fun y => A x y) 9 ∧ ∀ y, y < 9 → u.1 (t + 4) (9 * x + y) = A x y ∧ u.1 (t + 6) (9 * x + y) = af c t x y ∧ u.1 (t + 7) (9 * x + y) = ar c t x y) ∧ (∀ x y, x < 8 → y < 9 → 0 ≤ TB md P A x y ∧ TB md P A x y ≤ 100000009) ∧ (∀ x, x < 8 → sg (fun y => TB md P A x y) 9 = if sg (fun y => A x y) 9 ≤ 0 then 0 else P x) ∧ ∀ x, x < 8 → u.1 (t + 3) x = pl c t x := by
  have ft := tf_of h hp hb ha
  obtain ⟨u, w, u1, w1, e1, _, e2, e3, _, _, _, e4, e5⟩ := tab_eq ht ft (fun q => by rw [sg_eq (g := fun x => sg (fun y => A x y) 9) fun x hx => am_of fun y hy => ha x y hx hy]; exact h8 q) (rr0_AL (md := md) hp ha) (rr0_SC md P A) (show (rr0 md P A).1 216 3 = md from rfl) hmd
  obtain ⟨u', w', u1', w1', e1', _⟩ := tab_eq (t := 74) (by decide +kernel) (cc_tf h) (fun q => by rw [sg_eq (g := fun x => sg (fun y => A x y) 9) fun x hx => am_of fun y hy => cc_am P A hy]; exact h8 q) (rr0_AL (md := md) (fun _ _ => rfl) fun x y _ hy => cc_am P A hy) (rr0_SC md P A) (show (rr0 md P A).1 216 3 = md from rfl) hmd
  have ew : w' = w := Option.some.inj (w1'.symm.trans w1)
  have T : ∀ x y, x < 8 → y < 9 → TB md P A x y = u.1 (t + 8) (9 * x + y) := fun x y hx hy => by
    unfold TB
    rw [u1']
    show u'.1 82 (9 * x + y) = _
    rw [e1 x y hx hy, ← ew]
    exact e1' x y hx hy
  refine ⟨u, u1, fun x y hx hy => (T x y hx hy).symm, e2, fun x hx => ?_, fun x y hx hy => ?_, fun x hx => ?_, e5⟩
  · obtain ⟨a1, a2⟩ := e3 x hx
    refine ⟨a1.trans (am_of fun y hy => ha x y hx hy), fun y hy => ?_⟩
    obtain ⟨b1, b2, b3, b4⟩ := a2 y hy
    exact ⟨b1.trans (ha x y hx hy), b2, b3⟩
  · obtain ⟨b1, b2, b3, b4⟩ := (e3 x hx).2 y hy
    have r := af_r ft hx hy
    rw [T x y hx hy]
    omega
  · rw [sg_eq (g := fun y => u.1 (t + 8) (9 * x + y)) fun y hy => T x y hx hy, e4 x hx, am_of (A := A) fun y hy => ha x y hx hy, hp x hx]
/-- the reference's fills lays it -/
theorem TB_ref {md : Int} {P : Nat → Int} {A : Nat → Nat → Int} {r : gx_S} {R m : Nat} (hmd : md = 0 ∨ md = 1) (h : PA P A) (S : SC r) (h17 : r.1 215 17 = R) (h18 : r.1 215 18 = m) (R8 : R ≤ 8) (m9 : m ≤ 9) (h8 : md = 1 → sg (fun x => sg (fun y => A x y) 9) 8 ≤ 864) (h3 : r.1 216 3 = md) (hp : ∀ x, x < R → r.2 221 x = P x) (ha : ∀ x y, x < R → y < m → r.1 222 (9 * x + y) = A x y) (h0 : ∀ x y, x < 8 → y < 9 → ¬ (x < R ∧ y < m) → A x y = 0) : ∃ w : gx_S, gm_173 r = some w ∧ (∀ x y, x < R → y < m → w.2 224 (9 * x + y) = TB md P A x y) ∧ rc r w ∧ SC w ∧ (∀ x, x < R → w.1 223 x = sg (fun y => A x y) 9) ∧ ∀ x y, x < 8 → y < 9 → ¬ (x < R ∧ y < m) → TB md P A x y = 0 := by
  obtain ⟨u, w, u1, w1, e1, e0, _, _, e2, e3, e4, _⟩ := tab_eq (t := 74) (by decide +kernel) (cc_tf h) (fun q => by rw [sg_eq (g := fun x => sg (fun y => A x y) 9) fun x hx => am_of fun y hy => cc_am P A hy]; exact h8 q) (show AL (cc P A) r 74 R m from ⟨h17, h18, R8, m9, hp, fun x y hx hy => by rw [ha x y hx hy, cc_am P A (by omega)], fun x y hx hy hn => by rw [cc_am P A hy, h0 x y hx hy hn]⟩) S h3 hmd
  have T : ∀ x y, TB md P A x y = u.1 82 (9 * x + y) := fun x y => by
    unfold TB
    rw [u1]
  exact ⟨w, w1, fun x y hx hy => by rw [T]; exact (e1 x y hx hy).symm, e2, e3, fun x hx => (e4 x hx).trans (am_of fun y hy => cc_am P A hy), fun x y hx hy hn => by rw [T]; exact e0 x y hx hy hn⟩
end
section
/-! THE REFERENCE's MAP: kinds, unknown, aside -/
/-- one row alone, by remainders -/
theorem TB_163 {P : Nat → Int} {A : Nat → Nat → Int} {r : gx_S} (h : PA P A) (h17 : r.1 215 17 = 1) (h18 : r.1 215 18 = 8) (hp : r.2 221 0 = P 0) (ha : ∀ y, y < 8 → r.1 222 y = A 0 y) (hw : r.1 223 0 = sg (fun y => r.1 222 y) 8) (h0 : ∀ x y, x < 8 → y < 9 → ¬ (x < 1 ∧ y < 8) → A x y = 0) : ∃ w : gx_S, gm_163 0 r = some w ∧ (∀ y, y < 8 → w.2 224 y = TB 0 P A 0 y) ∧ w.1 = r.1 ∧ (∀ k i, k ≠ 224 → k ≠ 225 → w.2 k i = r.2 k i) ∧ ∀ i, 0 ≤ r.2 225 i ∧ r.2 225 i ≤ 1000000000 → 0 ≤ w.2 225 i ∧ w.2 225 i ≤ 1000000000 := by
  have ft := cc_tf h
  have ht : fx_oc 74 7 = true := by decide +kernel
  obtain ⟨v, u, v1, u1, u2, u3, u4, u5⟩ := sp_41_0 ht ft
  obtain ⟨v', v1', v2, v3, v4, v5, _⟩ := sp_70 ht ft
  have ev : v' = v := Option.some.inj (v1'.symm.trans v1)
  rw [ev] at v4
  have i0 : ∀ y, 9 * 0 + y = y := fun y => by omega
  have P1 : PR r 1 8 := by
    refine ⟨h17, h18, by omega, by omega, fun x hx => ?_⟩
    have e : x = 0 := by omega
    rw [e]
    have a := h.1 0 (by omega)
    refine ⟨by rw [hp]; omega, fun y hy => ?_, ?_⟩
    · rw [i0, ha y hy]
      exact h.2.1 0 y (by omega) (by omega)
    · rw [hw]
      exact sg_eq fun y _ => by rw [i0]
  have w0 : r.1 223 0 = aw (cc P A) 74 0 := by
    rw [hw]
    unfold aw
    rw [sg_cut0 (f := fun y => am (cc P A) 74 0 y) (m := 8) (n := 9) (by omega) fun k h1 h2 => by rw [cc_am P A h2, h0 0 k (by omega) h2 (by omega)]]
    exact sg_eq fun y hy => by rw [ha y hy, cc_am P A (by omega)]
  have wp := PR_w P1 (show 0 < 1 by omega)
  have RA0 : RA v r 74 8 0 := by
    obtain ⟨a1, a2, a3⟩ := v4 0 (by omega)
    have f : ∀ y, y < 8 → af (cc P A) 74 0 y = flq r y ∧ ar (cc P A) 74 0 y = rsq r y := fun y hy => by
      unfold af ar flq rsq
      rw [show y / 9 = 0 by omega, ← w0, cc_am P A (by omega), ha y hy, hp]
      have e : (cc P A).1 (74 + 1) 0 = P 0 := rfl
      rw [e]
      by_cases z : r.1 223 0 ≤ 0
      · rw [if_pos z, if_pos z, if_pos (by omega), if_pos (by omega)]
        exact ⟨rfl, rfl⟩
      · rw [if_neg z, if_neg z, if_neg (by omega), if_neg (by omega)]
        exact ⟨rfl, rfl⟩
    refine ⟨fun y hy => ?_, fun y h1 h2 => ?_⟩
    · obtain ⟨b1, b2, b3, b4⟩ := a3 y (by omega)
      obtain ⟨f1, f2⟩ := f y hy
      rw [i0] at b2 b3 b4
      rw [i0]
      exact ⟨b2.trans f1, b4.trans f1, b3.trans f2⟩
    · obtain ⟨b1, b2, b3, b4⟩ := a3 y (by omega)
      rw [b3]
      unfold ar
      rw [cc_am P A h2, h0 0 y (by omega) h2 (by omega), Int.mul_zero, Int.zero_emod]
      split <;> rfl
  obtain ⟨w, x1, x2, x3, x4, x5, x6⟩ := sl_173_39 (v := v) (t := 74) (R := 1) (m := 8) 100000 0 r (by omega) (by omega) P1 fun x hx => by
    rw [show x = 0 by omega]
    exact RA0
  obtain ⟨a1, a2, a3⟩ := P1.2.2.2.2 0 (by omega)
  have s1 := sp_163 (s := r) (r := 0) (m := 8) (by omega) (by omega) h18 a1 a2 a3
  obtain ⟨q, hq⟩ : ∃ q, gm_163 0 r = some q := ⟨_, s1⟩
  have qe : q.1 215 17 = 1 := by
    have e := Option.some.inj (hq.symm.trans s1)
    rw [e, gvn_1]
    exact h17
  have st : gm_173_39 100000 0 r = some q := by
    rw [gm_173_39, h17, if_pos (by decide), if_pos (by decide), if_neg (by decide), hq, Option.bind_some, gm_173_39, qe]
    rfl
  have x1 : gm_173_39 100000 0 r = some w := x1
  have eq : q = w := Option.some.inj (st.symm.trans x1)
  have T : ∀ y, y < 8 → TB 0 P A 0 y = u.1 82 y := fun y hy => by
    unfold TB
    rw [u1, i0]
  refine ⟨w, by rw [hq, eq], fun y hy => ?_, x2, fun k i h1 h2 => x3 k i h1 h2, x6⟩
  have z := x4 0 y (by omega) (by omega) hy
  have z2 := u3 0 y (by omega) (by omega)
  rw [i0] at z z2
  have l : lo v 74 0 = loq r 8 0 := by
    rw [(v4 0 (by omega)).2.1]
    unfold loq
    rw [← w0, hp]
    have e : (cc P A).1 (74 + 1) 0 = P 0 := rfl
    rw [e]
    by_cases z : r.1 223 0 ≤ 0
    · rw [if_pos z, if_pos (by omega)]
    · rw [if_neg z, if_neg (by omega)]
      have f9 : af (cc P A) 74 0 8 = 0 := by
        unfold af
        rw [cc_am P A (by omega), h0 0 8 (by omega) (by omega) (by omega), Int.mul_zero, Int.zero_ediv]
        split <;> rfl
      rw [sg_cut0 (f := fun y => af (cc P A) 74 0 y) (m := 8) (n := 9) (by omega) fun k h1 h2 => by rw [show k = 8 by omega]; exact f9]
      have ff : sg (fun y => af (cc P A) 74 0 y) 8 = sg (fun y => flq r (9 * 0 + y)) 8 := sg_eq fun y hy => by
        obtain ⟨b1, b2, b3, b4⟩ := (v4 0 (by omega)).2.2 y (by omega)
        rw [← b2]
        exact (RA0.1 y hy).1
      rw [ff]
  rw [T y hy, z2, l]
  exact z
/-- cells with the sign in a layer that is told -/
def NC (f : Nat → Int) (R C l : Nat) (z : Int) : Int := if f 2 / 2 ^ l % 2 = 1 then sg (fun k => bi (f (52 + 96 * l + 12 * (k / C) + k % C) = z)) (R * C) else 0
/-- a map, as the reference keeps it -/
def MP (f : Nat → Int) (R C : Nat) : Prop := (f 0 = R ∧ f 1 = C ∧ R ≤ 8 ∧ C ≤ 12) ∧ (0 ≤ f 2 ∧ f 2 < 8) ∧ (f 3 = 0 ∨ f 3 = 1) ∧ (f 4 = 0 ∨ f 4 = 1) ∧ (∀ g, g < 3 → (∀ z, z < 9 → 0 ≤ f (5 + 9 * g + z)) ∧ sg (fun z => f (5 + 9 * g + z)) 9 ≤ 89991) ∧ (∀ i, i < 12 → 0 ≤ f (32 + i) ∧ f (32 + i) ≤ 9) ∧ (∀ z, z < 8 → 0 ≤ f (44 + z) ∧ f (44 + z) ≤ 3) ∧ (∀ l, l < 3 → f 2 / 2 ^ l % 2 = 1 → ∀ k, k < R * C → 0 ≤ f (52 + 96 * l + 12 * (k / C) + k % C) ∧ f (52 + 96 * l + 12 * (k / C) + k % C) ≤ if l = 2 then 3 else 8) ∧ (¬ f 2 = 0 → f 2 % 2 = 1 ∧ 1 ≤ R ∧ 1 ≤ C)
theorem MP_mz {s : gx_S} {R C : Nat} (M : MP (s.1 216) R C) : mz s R C := M.1
theorem RC_96 {R C : Nat} (h1 : R ≤ 8) (h2 : C ≤ 12) : R * C ≤ 96 := Nat.le_trans (Nat.mul_le_mul h1 h2) (by omega)
theorem NC_nn (f : Nat → Int) (R C l : Nat) (z : Int) : 0 ≤ NC f R C l z ∧ NC f R C l z ≤ R * C := by
  unfold NC
  split
  · refine ⟨sg_nn fun k _ => (bi_r _).1, ?_⟩
    have a := sg_le (f := fun k => bi (f (52 + 96 * l + 12 * (k / C) + k % C) = z)) (g := fun _ => 1) (n := R * C) fun k _ => (bi_r _).2
    rw [sg_one] at a
    rw [← Int.natCast_mul]
    exact a
  · rw [← Int.natCast_mul]
    omega
theorem sp_153g {s : gx_S} {R C : Nat} (M : MP (s.1 216) R C) (l : Nat) (z : Int) (hl : l < 3) (hz : -2147483648 ≤ z ∧ z ≤ 2147483647) : gm_153 l z s = some (decide (0 < NC (s.1 216) R C l z), s) := by
  obtain ⟨m1, m2, m3, m4, m5, m6, m7, m8, m10⟩ := id M
  have hm2 := RC_96 m1.2.2.1 m1.2.2.2
  unfold NC
  by_cases b : s.1 216 2 / 2 ^ l % 2 = 1
  · rw [if_pos b]
    exact sp_153 (MP_mz M) l z hl hz m2 b fun k hk => by
      have := m8 l hl b k hk
      have e : cdx s C l k = s.1 216 (52 + 96 * l + 12 * (k / C) + k % C) := rfl
      rw [e]
      split at this <;> omega
  · rw [if_neg b]
    have hm : s.1 216 0 * s.1 216 1 = ((R * C : Nat) : Int) := by rw [m1.1, m1.2.1]; simp
    unfold gm_153
    rw [gm_153_2, sp_151, hm, Option.bind_some]
    by_cases q : 0 < R * C
    · simp (disch := omega) only [if_pos, if_neg]
      rw [sp_144 l hl m2, decide_eq_false b, Option.bind_some]
      exact if_pos rfl
    · simp (disch := omega) only [if_pos, if_neg]
      rfl
theorem gb_d (c : Prop) [Decidable c] : gb (decide c) = 0 ∨ gb (decide c) = 1 := by rw [gb_bi]; unfold bi; split; exact .inr rfl; exact .inl rfl
def KD (f : Nat → Int) (R C l n : Nat) : Int := sg (fun z => bi (0 < NC f R C l z)) n
theorem KD_r (f : Nat → Int) (R C l n : Nat) : 0 ≤ KD f R C l n ∧ KD f R C l n ≤ n := by
  refine ⟨sg_nn fun k _ => (bi_r _).1, ?_⟩
  rw [← sg_one n]
  exact sg_le fun k _ => (bi_r _).2
theorem sp_154 {s : gx_S} {R C : Nat} (M : MP (s.1 216) R C) (l m : Nat) (hl : l < 3) (hm : m ≤ 8) : gm_154 l m s = some (KD (s.1 216) R C l m, s) := by
  have e : ∀ (n j : Nat), m < n + j → j ≤ m → gm_154_5 n l m (KD (s.1 216) R C l j) j s = some (KD (s.1 216) R C l m, s) := by
    intro n
    induction n with
    | zero => intro j h; omega
    | succ n ih =>
      intro j h hj
      rw [gm_154_5, if_pos (by omega), if_pos (by omega)]
      by_cases q : j = m
      · rw [if_pos (by omega), q]
      · have ce : ((j : Int) + 1) = ((j + 1 : Nat) : Int) := rfl
        rw [if_neg (by omega), sp_153g M l j hl (by omega), Option.bind_some, sp_131 (gb_d _), Option.bind_some, gb_bi, ce]
        exact ih (j + 1) (by omega) (by omega)
  exact e 100000 0 (by omega) (by omega)
/-- those of no known zone -/
def UN (f : Nat → Int) (R C g : Nat) : Int := f (5 + 9 * g + 8) + sg (fun z => if 0 < NC f R C 0 z then 0 else f (5 + 9 * g + z)) 8
abbrev SHr (f : Nat → Int) (R C : Nat) : Prop := f 4 = 1 ∧ 0 < KD f R C 0 8
theorem UN_r {f : Nat → Int} {R C g : Nat} (M : MP f R C) (hg : g < 3) : 0 ≤ UN f R C g ∧ UN f R C g ≤ 89991 := by
  obtain ⟨a, b⟩ := M.2.2.2.2.1 g hg
  have c1 := sg_nn (f := fun z => if 0 < NC f R C 0 (z : Nat) then 0 else f (5 + 9 * g + z)) (n := 8) fun z hz => by
    show 0 ≤ (if 0 < NC f R C 0 z then 0 else f (5 + 9 * g + z))
    split
    · omega
    · exact a z (by omega)
  have c2 := sg_le (f := fun z => if 0 < NC f R C 0 (z : Nat) then 0 else f (5 + 9 * g + z)) (g := fun z => f (5 + 9 * g + z)) (n := 8) fun z hz => by
    show (if 0 < NC f R C 0 z then 0 else f (5 + 9 * g + z)) ≤ f (5 + 9 * g + z)
    split
    · exact a z (by omega)
    · omega
  have d : sg (fun z => f (5 + 9 * g + z)) 9 = sg (fun z => f (5 + 9 * g + z)) 8 + f (5 + 9 * g + 8) := rfl
  have e := a 8 (by omega)
  unfold UN
  omega
theorem sp_174 {s : gx_S} {R C : Nat} (M : MP (s.1 216) R C) {g : Nat} (hg : g < 3) : gm_174 g s = some (UN (s.1 216) R C g, s) := by
  have e : ∀ (n j : Nat), 8 < n + j → j ≤ 8 → gm_174_10 n g (s.1 216 (5 + 9 * g + 8) + sg (fun z => if 0 < NC (s.1 216) R C 0 z then 0 else s.1 216 (5 + 9 * g + z)) j) j s = some (UN (s.1 216) R C g, s) := by
    intro n
    induction n with
    | zero => intro j h; omega
    | succ n ih =>
      intro j h hj
      rw [gm_174_10, if_pos (by omega)]
      by_cases q : j = 8
      · rw [if_pos (by omega), q]
        rfl
      · have ce : ((j : Int) + 1) = ((j + 1 : Nat) : Int) := rfl
        have ih := ih (j + 1) (by omega) (by omega)
        have sgs : sg (fun z => if 0 < NC (s.1 216) R C 0 z then 0 else s.1 216 (5 + 9 * g + z)) (j + 1) = sg (fun z => if 0 < NC (s.1 216) R C 0 z then 0 else s.1 216 (5 + 9 * g + z)) j + if 0 < NC (s.1 216) R C 0 j then 0 else s.1 216 (5 + 9 * g + j) := rfl
        rw [sgs] at ih
        have c53 := sp_153g M 0 j (by omega) (by omega)
        have c53 : gm_153 0 j s = _ := c53
        rw [if_neg (by omega), c53, Option.bind_some]
        by_cases z : 0 < NC (s.1 216) R C 0 j
        · rw [if_pos z] at ih
          rw [decide_eq_true z, if_neg (show ¬ gb (true, s).1 = 0 from (by decide : ¬ gb true = 0))]
          unfold gm_174_36
          rw [ce, Int.add_assoc]
          exact ih
        · rw [if_neg z] at ih
          rw [decide_eq_false z, if_pos (show gb (false, s).1 = 0 from (by decide : gb false = 0))]
          show ((gm_155 g j s).bind _) = _
          rw [sp_155 g j hg (by omega), Option.bind_some]
          unfold gm_174_36
          rw [ce, Int.add_assoc]
          exact ih
  unfold gm_174
  have c55 := sp_155 (s := s) g 8 hg (by omega)
  have c55 : gm_155 g 8 s = _ := c55
  rw [c55, Option.bind_some]
  have e0 := e 100000 0 (by omega) (by omega)
  have z0 : sg (fun z => if 0 < NC (s.1 216) R C 0 z then 0 else s.1 216 (5 + 9 * g + z)) 0 = 0 := rfl
  rw [z0, Int.add_zero] at e0
  exact e0
theorem sp_175 {s : gx_S} {R C : Nat} (M : MP (s.1 216) R C) : ∃ v : Bool, gm_175 s = some (v, s) ∧ (v = true ↔ SHr (s.1 216) R C) := by
  have m4 := M.2.2.2.1
  have k := KD_r (s.1 216) R C 0 8
  have c54 := sp_154 M 0 8 (by omega) (by omega)
  have c54 : gm_154 0 8 s = _ := c54
  unfold gm_175
  rw [if_pos (by omega)]
  by_cases z : s.1 216 4 = 1
  · rw [if_neg (fun h => h z), c54, Option.bind_some]
    by_cases q : KD (s.1 216) R C 0 8 ≤ 0
    · refine ⟨false, ?_, fun h => Bool.noConfusion h, fun h => absurd h.2 (by omega)⟩
      rw [if_pos (by omega), if_pos q]
    · refine ⟨true, ?_, fun _ => ⟨z, by omega⟩, fun _ => rfl⟩
      rw [if_pos (by omega), if_neg q]
  · rw [if_pos z]
    exact ⟨false, rfl, fun h => Bool.noConfusion h, fun h => absurd h.1 z⟩
theorem sp_178 {s : gx_S} {g : Nat} (hg : g < 3) : gm_178 g s = some (sg (fun z => s.1 216 (5 + 9 * g + z)) 9, s) := by
  have e : ∀ (n j : Nat), 9 < n + j → j ≤ 9 → gm_178_4 n g (sg (fun z => s.1 216 (5 + 9 * g + z)) j) j s = some (sg (fun z => s.1 216 (5 + 9 * g + z)) 9, s) := by
    intro n
    induction n with
    | zero => intro j h; omega
    | succ n ih =>
      intro j h hj
      rw [gm_178_4, if_pos (by omega)]
      by_cases q : j = 9
      · rw [if_pos (by omega), q]
      · have ce : ((j : Int) + 1) = ((j + 1 : Nat) : Int) := rfl
        rw [if_neg (by omega), sp_155 g j hg (by omega), Option.bind_some, ce]
        exact ih (j + 1) (by omega) (by omega)
  exact e 100000 0 (by omega) (by omega)
end
section
/-! THE REFERENCE: who lives where -/
def ASf (f : Nat → Int) (R C g : Nat) : Int := if SHr f R C then 0 else UN f R C g
def L0 (f : Nat → Int) (R C g : Nat) (z : Nat) : Int := if 0 < NC f R C 0 z then f (5 + 9 * g + z) else 0
def Psh (f : Nat → Int) (R C g : Nat) (x : Nat) : Int := if x = 0 then UN f R C g - ASf f R C g else 0
def Ash (f : Nat → Int) (R C g : Nat) (x y : Nat) : Int := if x = 0 ∧ y < 8 then (if sg (L0 f R C g) 8 = 0 then NC f R C 0 y else L0 f R C g y) else 0
def LV (f : Nat → Int) (R C g : Nat) (z : Nat) : Int := L0 f R C g z + TB 0 (Psh f R C g) (Ash f R C g) 0 z
theorem L0_r {f : Nat → Int} {R C g : Nat} (M : MP f R C) (hg : g < 3) : (∀ z, z < 8 → 0 ≤ L0 f R C g z) ∧ sg (L0 f R C g) 8 + UN f R C g = sg (fun z => f (5 + 9 * g + z)) 9 := by
  obtain ⟨a, b⟩ := M.2.2.2.2.1 g hg
  refine ⟨fun z hz => ?_, ?_⟩
  · unfold L0
    split
    · exact a z (by omega)
    · omega
  · have e := sg_add (L0 f R C g) (fun z => if 0 < NC f R C 0 (z : Nat) then 0 else f (5 + 9 * g + z)) 8
    rw [sg_eq (f := fun z => L0 f R C g z + (if 0 < NC f R C 0 (z : Nat) then 0 else f (5 + 9 * g + z))) (g := fun z => f (5 + 9 * g + z)) fun z hz => by
      show L0 f R C g z + (if 0 < NC f R C 0 z then 0 else f (5 + 9 * g + z)) = _
      unfold L0
      by_cases q : 0 < NC f R C 0 z
      · rw [if_pos q, if_pos q]; omega
      · rw [if_neg q, if_neg q]; omega] at e
    have d : sg (fun z => f (5 + 9 * g + z)) 9 = sg (fun z => f (5 + 9 * g + z)) 8 + f (5 + 9 * g + 8) := rfl
    unfold UN
    omega
theorem PA_sh {f : Nat → Int} {R C g : Nat} (M : MP f R C) (hg : g < 3) : PA (Psh f R C g) (Ash f R C g) ∧ ∀ x y, x < 8 → y < 9 → ¬ (x < 1 ∧ y < 8) → Ash f R C g x y = 0 := by
  obtain ⟨a, b⟩ := L0_r M hg
  have u := UN_r M hg
  have m := (M.2.2.2.2.1 g hg).2
  have hRC := RC_96 M.1.2.2.1 M.1.2.2.2
  have n : ∀ z, 0 ≤ NC f R C 0 z ∧ NC f R C 0 z ≤ 96 := fun z => by
    have := NC_nn f R C 0 z
    rw [← Int.natCast_mul] at this
    omega
  have l : ∀ z, z < 8 → L0 f R C g z ≤ 89991 := fun z hz => by
    have := sg_at a z hz
    omega
  have A1 : ∀ x y, 0 ≤ Ash f R C g x y ∧ Ash f R C g x y ≤ 89991 := fun x y => by
    unfold Ash
    by_cases q : x = 0 ∧ y < 8
    · rw [if_pos q]
      have := n y
      have := a y q.2
      have := l y q.2
      split <;> omega
    · rw [if_neg q]
      omega
  have A0 : ∀ x y, x < 8 → y < 9 → ¬ (x < 1 ∧ y < 8) → Ash f R C g x y = 0 := fun x y _ _ h => if_neg (by omega)
  refine ⟨⟨fun x hx => ?_, fun x y _ _ => ?_, ?_⟩, A0⟩
  · unfold Psh ASf
    split
    · split <;> omega
    · omega
  · have := A1 x y
    omega
  · rw [sg_cut0 (f := fun x => sg (fun y => Ash f R C g x y) 9) (m := 1) (n := 8) (by omega) fun k h1 h2 => sg_0 fun y hy => A0 k y h2 hy (by omega)]
    have e := sg_le (f := fun y => Ash f R C g 0 y) (g := fun _ => 89991 * 1) (n := 9) fun y _ => by
      show Ash f R C g 0 y ≤ 89991 * 1
      have := (A1 0 y).2
      omega
    rw [sg_mul, sg_one] at e
    show 0 + sg (fun y => Ash f R C g 0 y) 9 ≤ 1000000
    omega
theorem TB_0 {md : Int} {P : Nat → Int} {A : Nat → Nat → Int} (hmd : md = 0 ∨ md = 1) (h : PA P A) (h8 : md = 1 → sg (fun x => sg (fun y => A x y) 9) 8 ≤ 864) : (∀ x y, x < 8 → y < 9 → 0 ≤ TB md P A x y ∧ TB md P A x y ≤ P x) ∧ ∀ x, x < 8 → sg (fun y => TB md P A x y) 9 = if sg (fun y => A x y) 9 ≤ 0 then 0 else P x := by
  obtain ⟨u, u1, u2, u3, u4, u5, u6, _⟩ := TB_class (t := 74) (c := cc P A) (by decide +kernel) hmd h h8 (fun _ _ => rfl) (fun i hi => ⟨h.2.1 (i / 9) (i % 9) (by omega) (by omega), h.2.1 (i / 9) (i % 9) (by omega) (by omega)⟩) fun x y _ hy => cc_am P A hy
  refine ⟨fun x y hx hy => ⟨(u5 x y hx hy).1, ?_⟩, u6⟩
  have a := sg_at (f := fun y => TB md P A x y) (n := 9) (fun k hk => (u5 x k hx hk).1) y hy
  have b := u6 x hx
  have c := (h.1 x hx).1
  split at b <;> omega
/-- the reference's scratch alone changes -/
def KR (s u : gx_S) : Prop := (∀ k j, (k < 215 ∨ k = 216 ∨ k = 217 ∨ k = 218 ∨ (k = 215 ∧ (j = 2 ∨ j = 4)) ∨ 237 ≤ k) → u.1 k j = s.1 k j) ∧ (∀ k j, k < 215 ∨ 237 ≤ k → u.2 k j = s.2 k j) ∧ (SC s → SC u)
/-- the same, with its other scratch -/
def KRw (s u : gx_S) : Prop := (∀ k j, (k < 215 ∨ k = 216 ∨ k = 217 ∨ k = 218 ∨ (k = 215 ∧ (j = 2 ∨ j = 4))) → u.1 k j = s.1 k j) ∧ (∀ k j, k < 215 → u.2 k j = s.2 k j) ∧ (SC s → SC u)
theorem KR_w {s u : gx_S} (a : KR s u) : KRw s u := ⟨fun k j h => a.1 k j (by omega), fun k j h => a.2.1 k j (.inl h), a.2.2⟩
theorem KRw_rf (s : gx_S) : KRw s s := ⟨fun _ _ _ => rfl, fun _ _ _ => rfl, fun h => h⟩
theorem KRw_tr {s t u : gx_S} (a : KRw s t) (b : KRw t u) : KRw s u := ⟨fun k j h => (b.1 k j h).trans (a.1 k j h), fun k j h => (b.2.1 k j h).trans (a.2.1 k j h), fun h => b.2.2 (a.2.2 h)⟩
theorem KRw_216 {s u : gx_S} (a : KRw s u) : u.1 216 = s.1 216 := funext fun j => a.1 216 j (by omega)
theorem KR_rf (s : gx_S) : KR s s := ⟨fun _ _ _ => rfl, fun _ _ _ => rfl, fun h => h⟩
theorem KR_tr {s t u : gx_S} (a : KR s t) (b : KR t u) : KR s u := ⟨fun k j h => (b.1 k j h).trans (a.1 k j h), fun k j h => (b.2.1 k j h).trans (a.2.1 k j h), fun h => b.2.2 (a.2.2 h)⟩
theorem KR_216 {s u : gx_S} (a : KR s u) : u.1 216 = s.1 216 := funext fun j => a.1 216 j (by omega)
theorem KR_rc {s u : gx_S} (a : rc s u) (h : SC u) : KR s u := ⟨fun k j q => a.1 k j (by omega) (by omega) (by omega) (by omega) (by omega), fun k j q => a.2 k j (by omega) (by omega), fun _ => h⟩
theorem KR_159 (s : gx_S) (a b : Int) : ∃ u : gx_S, gm_159 a b s = some u ∧ KR s u ∧ u.1 215 17 = a ∧ u.1 215 18 = b ∧ (∀ j, j < 72 → u.1 222 j = 0 ∧ u.2 224 j = 0 ∧ u.2 225 j = 0) ∧ (∀ k j, k ≠ 222 → k ≠ 215 → u.1 k j = s.1 k j) ∧ ∀ k j, k ≠ 224 → k ≠ 225 → u.2 k j = s.2 k j := by
  have o1 : ∀ k j, k ≠ 222 → (bg (gw1 (gw1 s 215 17 a) 215 18 b) 72).1 k j = (gw1 (gw1 s 215 17 a) 215 18 b).1 k j := fun k j h => if_neg fun x => h x.1
  have o2 : ∀ k j, k ≠ 224 → k ≠ 225 → (bg (gw1 (gw1 s 215 17 a) 215 18 b) 72).2 k j = s.2 k j := fun k j h1 h2 => if_neg (by omega)
  have o3 : ∀ k j, k ≠ 222 → ¬ (k = 215 ∧ (j = 17 ∨ j = 18)) → (bg (gw1 (gw1 s 215 17 a) 215 18 b) 72).1 k j = s.1 k j := fun k j h h' => by
    rw [o1 k j h, gw1_1, if_neg (by omega), gw1_1, if_neg (by omega)]
  have z5 : ∀ j, j < 72 → (bg (gw1 (gw1 s 215 17 a) 215 18 b) 72).2 225 j = 0 := fun j hj => if_pos ⟨.inr rfl, hj⟩
  refine ⟨_, sp_159 a b s, ⟨fun k j q => o3 k j (by omega) (by omega), fun k j q => o2 k j (by omega) (by omega), fun S => ⟨fun j hj => ?_, fun c hc => ?_, fun k hk => ?_⟩⟩, ?_, ?_, fun j hj => ⟨if_pos ⟨rfl, hj⟩, if_pos ⟨.inl rfl, hj⟩, z5 j hj⟩, fun k j h h' => o3 k j h (by omega), o2⟩
  · rw [z5 j hj, o3 232 j (by decide) (by omega), o3 233 j (by decide) (by omega), o3 234 j (by decide) (by omega)]
    have := S.1 j hj
    exact ⟨this.1, this.2.1, this.2.2.1, by omega, by omega⟩
  · rw [o3 235 c (by decide) (by omega), o2 229 c (by decide) (by decide), o2 230 c (by decide) (by decide), o2 227 c (by decide) (by decide), o2 228 c (by decide) (by decide)]
    exact S.2.1 c hc
  · rw [o2 231 k (by decide) (by decide)]
    exact S.2.2 k hk
  · rw [o1 215 17 (by decide), gw1_1, if_neg (by omega), gw1_1, if_pos ⟨rfl, rfl⟩]
  · rw [o1 215 18 (by decide), gw1_1, if_pos ⟨rfl, rfl⟩]
end
