/-! THE REFERENCE's BALANCED TABLE: canBe says whether a table comes right that agrees with what is fixed -/
theorem bdec (P : Nat → Prop) : ∃ f : Nat → Bool, ∀ n, f n = true ↔ P n := ⟨fun n => @decide (P n) (Classical.propDecidable _), fun n => @decide_eq_true_iff (P n) (Classical.propDecidable _)⟩
def IW (s x : gx_S) (R m : Nat) : Prop := (∀ r, r < R → sg (fun c => x.1 232 (9 * r + c)) m + x.2 231 r = s.2 226 r) ∧ ∀ c, c < m → sg (fun r => x.1 232 (9 * r + c)) R = x.2 230 c
def FXd (s x : gx_S) (R m : Nat) : Prop := ∀ r c, r < R → c < m → s.1 233 (9 * r + c) = 1 → x.1 232 (9 * r + c) = vl s (9 * r + c)
theorem GW_on {x y : gx_S} {R m : Nat} (G : GW x y) (h17 : x.1 215 17 = R) (h18 : x.1 215 18 = m) {r c : Nat} (hr : r < 8) (hc : c < 9) (h : R ≤ r ∨ m ≤ c ∨ ¬ x.1 233 (9 * r + c) = 0) : y.1 232 (9 * r + c) = x.1 232 (9 * r + c) := by
  rcases G.2.2.1 (9 * r + c) (by omega) with a | a
  · exact a
  · obtain ⟨a1, a2, a3, a4⟩ := a
    rw [h17] at a3
    rw [h18] at a4
    rcases h with h | h | h
    · omega
    · omega
    · exact absurd a1 h
theorem IW_GW {s x y : gx_S} {R m : Nat} (I : IW s x R m) (G : GW x y) (R8 : R ≤ 8) (m9 : m ≤ 9) (h17 : x.1 215 17 = R) (h18 : x.1 215 18 = m) : IW s y R m := by
  refine ⟨fun r hr => ?_, fun c hc => ?_⟩
  · have a := G.2.2.2.1 r (by omega)
    have b := sg_dcut (f := fun c => y.1 232 (9 * r + c)) (g := fun c => x.1 232 (9 * r + c)) m9 fun k h1 h2 => GW_on G h17 h18 (by omega) h2 (.inr (.inl h1))
    have d := I.1 r hr
    unfold or_ at a
    omega
  · have a := G.2.2.2.2.1 c (by omega)
    have b := sg_dcut (f := fun r => y.1 232 (9 * r + c)) (g := fun r => x.1 232 (9 * r + c)) R8 fun k h1 h2 => GW_on G h17 h18 h2 (by omega) (.inl h1)
    have d := I.2 c hc
    unfold oc_ at a
    omega
theorem FXd_GW {s x y : gx_S} {R m : Nat} (I : FXd s x R m) (a : cb s x) (G : GW x y) (R8 : R ≤ 8) (m9 : m ≤ 9) (h17 : x.1 215 17 = R) (h18 : x.1 215 18 = m) : FXd s y R m := fun r c hr hc h => by
  rw [GW_on G h17 h18 (by omega) (by omega) (.inr (.inr (by rw [a.1 233 _ (by omega) (by omega), h]; decide)))]
  exact I r c hr hc h
theorem AG_vl {s : gx_S} {R m : Nat} {T : Nat → Int} (h01 : C01 s) (R8 : R ≤ 8) (m9 : m ≤ 9) (A : AGr s R m T) {r c : Nat} (hr : r < R) (hc : c < m) (h : s.1 233 (9 * r + c) = 1) : T (9 * r + c) = vl s (9 * r + c) := by
  rw [A r c hr hc h]
  unfold vl
  rw [if_neg (by rw [h]; decide)]
  rcases (h01 (9 * r + c) (by omega)).2 with q | q
  · rw [if_pos q, q]
  · rw [if_neg (by rw [q]; decide), q]
/-- within a closed set of columns, and out of it -/
theorem cut_T {s x : gx_S} {R m : Nat} {T : Nat → Int} (cx : cb s x) (K : RK x R m) (F : FXd s x R m) (h01 : C01 s) (T1 : FEr s R m T) (T2 : AGr s R m T) {C Q : Nat → Prop} (hC : ∀ c, c < m → C c → ∀ r', r' < R → x.1 232 (9 * r' + c) = 1 → x.1 233 (9 * r' + c) = 0 → ∀ d, d < m → can1 x r' d → C d) (hQ : ∀ r, r < R → Q r → ∀ d, d < m → can1 x r d → C d) : ∃ Rb Cb : Nat → Bool, (∀ c, Cb c = true ↔ C c) ∧ (∀ r, Rb r = true ↔ (Q r ∨ ∃ c, c < m ∧ C c ∧ x.1 232 (9 * r + c) = 1 ∧ x.1 233 (9 * r + c) = 0)) ∧ (∀ r c, r < R → c < m → Rb r = true → Cb c = false → T (9 * r + c) - x.1 232 (9 * r + c) ≤ 0) ∧ ∀ r c, r < R → c < m → Rb r = false → Cb c = true → 0 ≤ T (9 * r + c) - x.1 232 (9 * r + c) := by
  have R8 : R ≤ 8 := K.2.2.2.2.1
  have m9 : m ≤ 9 := K.2.2.2.2.2
  obtain ⟨Cb, eC⟩ := bdec C
  obtain ⟨Rb, eR⟩ := bdec fun r => Q r ∨ ∃ c, c < m ∧ C c ∧ x.1 232 (9 * r + c) = 1 ∧ x.1 233 (9 * r + c) = 0
  refine ⟨Rb, Cb, eC, eR, fun r c hr hc h1 h2 => ?_, fun r c hr hc h1 h2 => ?_⟩
  · have nC : ¬ C c := fun h => by
      rw [(eC c).mpr h] at h2
      exact Bool.noConfusion h2
    have nc : ¬ can1 x r c := fun h => nC (by
      rcases (eR r).mp h1 with q | ⟨c', q1, q2, q3, q4⟩
      · exact hQ r hr q c hc h
      · exact hC c' q1 q2 r hr q3 q4 c hc h)
    have k := K.1 (9 * r + c) (by omega)
    obtain ⟨t1, t2⟩ := T1.1 r c hr hc
    rcases k.1 with on | on
    · rcases k.2.1 with fx | fx
      · have z : ¬ 0 < x.2 225 (9 * r + c) := fun h => nc ⟨h, fx, on⟩
        rw [cx.2 225 _ (by omega) (by omega) (by omega)] at z
        rcases t1 with e | e
        · omega
        · exact absurd (t2 e) z
      · have e := cx.1 233 (9 * r + c) (by omega) (by omega)
        have a := AG_vl h01 R8 m9 T2 hr hc (e.symm.trans fx)
        have b := F r c hr hc (e.symm.trans fx)
        omega
    · omega
  · have nR : ¬ (x.1 232 (9 * r + c) = 1 ∧ x.1 233 (9 * r + c) = 0) := fun h => by
      rw [(eR r).mpr (.inr ⟨c, hc, (eC c).mp h2, h.1, h.2⟩)] at h1
      exact Bool.noConfusion h1
    have k := K.1 (9 * r + c) (by omega)
    obtain ⟨t1, t2⟩ := T1.1 r c hr hc
    rcases k.1 with on | on
    · omega
    · rcases k.2.1 with fx | fx
      · exact absurd ⟨on, fx⟩ nR
      · have e := cx.1 233 (9 * r + c) (by omega) (by omega)
        have a := AG_vl h01 R8 m9 T2 hr hc (e.symm.trans fx)
        have b := F r c hr hc (e.symm.trans fx)
        omega
theorem sg_sub (f g : Nat → Int) (n : Nat) : sg (fun c => f c - g c) n = sg f n - sg g n := by
  have a := sg_add f (fun c => - g c) n
  rw [sg_neg] at a
  have b : sg (fun c => f c - g c) n = sg (fun c => f c + - g c) n := sg_eq fun c _ => Int.sub_eq_add_neg
  omega
/-- the least first: every column has its least -/
theorem ph1 {s x : gx_S} {R m : Nat} {T : Nat → Int} (cx : cb s x) (K : RK x R m) (F : FXd s x R m) (h01 : C01 s) (T1 : FEr s R m T) (T2 : AGr s R m T) (I : IW s x R m) (hw : ∀ r, r < R → 0 ≤ x.2 231 r) (hl : ∀ c, c < m → x.2 229 c = s.2 227 c) (hf : ∀ c, c < m → x.2 230 c ≤ sg (fun r => T (9 * r + c)) R) (S : ∀ r, r < R → 0 < x.2 231 r → SK x r R m) : ∀ c, c < m → s.2 227 c ≤ x.2 230 c := by
  obtain ⟨Rb, Cb, eC, eR, h1, h2⟩ := cut_T cx K F h01 T1 T2 (C := fun c => ∃ r0, r0 < R ∧ 0 < x.2 231 r0 ∧ ∃ C0 : Nat → Prop, (∀ c, c < m → can1 x r0 c → C0 c) ∧ (∀ c, c < m → C0 c → x.2 229 c ≤ x.2 230 c ∧ ∀ r', r' < R → x.1 232 (9 * r' + c) = 1 → x.1 233 (9 * r' + c) = 0 → ∀ d, d < m → can1 x r' d → C0 d) ∧ C0 c) (Q := fun r => 0 < x.2 231 r) (fun c hc ⟨r0, p1, p2, C0, p3, p4, p5⟩ r' hr' q1 q2 d hd q3 => ⟨r0, p1, p2, C0, p3, p4, (p4 c hc p5).2 r' hr' q1 q2 d hd q3⟩) (fun r hr h d hd q => by
    obtain ⟨C0, p3, p4⟩ := S r hr h
    exact ⟨r, hr, h, C0, p3, p4, p3 d hd q⟩)
  have key := cut_eq (y := fun r c => x.1 232 (9 * r + c) - T (9 * r + c)) (R := fun r => !Rb r) (C := fun c => !Cb c) (m := R) (n := m) (fun r c hr hc a b => by
    have := h2 r c hr hc (by simpa using a) (by simpa using b)
    show x.1 232 (9 * r + c) - T (9 * r + c) ≤ 0
    omega) (fun r c hr hc a b => by
    have := h1 r c hr hc (by simpa using a) (by simpa using b)
    show 0 ≤ x.1 232 (9 * r + c) - T (9 * r + c)
    omega) (fun r hr a => by
    rw [sg_sub (fun c => x.1 232 (9 * r + c)) (fun c => T (9 * r + c)), T1.2.1 r hr]
    have i := I.1 r hr
    have w := hw r hr
    have n : ¬ 0 < x.2 231 r := fun h => by
      have : Rb r = true := (eR r).mpr (.inl h)
      rw [this] at a
      exact Bool.noConfusion a
    omega) (fun c hc a => by
    rw [sg_sub (fun r => x.1 232 (9 * r + c)) (fun r => T (9 * r + c)), I.2 c hc]
    have := hf c hc
    omega)
  intro c hc
  cases q : Cb c with
  | true =>
    obtain ⟨r0, p1, p2, C0, p3, p4, p5⟩ := (eC c).mp q
    have := (p4 c hc p5).1
    rw [hl c hc] at this
    exact this
  | false =>
    have a := key.2 c hc (by show (!Cb c) = true; rw [q]; rfl)
    rw [sg_sub (fun r => x.1 232 (9 * r + c)) (fun r => T (9 * r + c)), I.2 c hc] at a
    have := (T1.2.2 c hc).1
    omega
/-- then the most: every row has its own -/
theorem ph2 {s x : gx_S} {R m : Nat} {T : Nat → Int} (cx : cb s x) (K : RK x R m) (F : FXd s x R m) (h01 : C01 s) (T1 : FEr s R m T) (T2 : AGr s R m T) (I : IW s x R m) (hw : ∀ r, r < R → 0 ≤ x.2 231 r) (hl : ∀ c, c < m → x.2 229 c = s.2 228 c) (S : ∀ r, r < R → 0 < x.2 231 r → SK x r R m) : ∀ r, r < R → x.2 231 r = 0 := by
  intro r0 hr0
  refine Classical.byContradiction fun ne => ?_
  have w0 := hw r0 hr0
  obtain ⟨C0, p3, p4⟩ := S r0 hr0 (by omega)
  obtain ⟨Rb, Cb, eC, eR, h1, h2⟩ := cut_T cx K F h01 T1 T2 (C := C0) (Q := fun r => r = r0) (fun c hc p r' hr' q1 q2 d hd q3 => (p4 c hc p).2 r' hr' q1 q2 d hd q3) (fun r hr h d hd q => by
    rw [h] at q
    exact p3 d hd q)
  have key := cut_eq (y := fun r c => T (9 * r + c) - x.1 232 (9 * r + c)) (R := Rb) (C := Cb) (m := R) (n := m) h1 h2 (fun r hr a => by
    rw [sg_sub (fun c => T (9 * r + c)) (fun c => x.1 232 (9 * r + c)), T1.2.1 r hr]
    have i := I.1 r hr
    have w := hw r hr
    omega) (fun c hc a => by
    rw [sg_sub (fun r => T (9 * r + c)) (fun r => x.1 232 (9 * r + c)), I.2 c hc]
    have := (p4 c hc ((eC c).mp a)).1
    have := (T1.2.2 c hc).2
    rw [hl c hc] at *
    omega)
  have a := key.1 r0 hr0 ((eR r0).mpr (.inl rfl))
  rw [sg_sub (fun c => T (9 * r0 + c)) (fun c => x.1 232 (9 * r0 + c)), T1.2.1 r0 hr0] at a
  have i := I.1 r0 hr0
  omega
