/-! STATES AS FUNCTIONS: what the cells hold: ints by cell and slot, longs by cell and slot; shapes and references stand fast (60.shape). A relation to numbered heaps; a run from a place of a method's code (fx_E); its rows. -/
abbrev fx_S : Type := (Nat → Nat → Int32) × (Nat → Nat → Int64)
def fx_w1 (σ : fx_S) (k j : Nat) (x : Int32) : fx_S := (fun a b => if a = k ∧ b = j then x else σ.1 a b, σ.2)
def fx_w2 (σ : fx_S) (k j : Nat) (x : Int64) : fx_S := (σ.1, fun a b => if a = k ∧ b = j then x else σ.2 a b)
def fx_fv (σ : fx_S) (k c j : Nat) : Value := match iv_ft c j with
  | .int => .int (σ.1 k j)
  | .boolean => .int (σ.1 k j)
  | .long => .long (σ.2 k j)
  | _ => .ref (fx_rf k j)
def fx_rc (σ : fx_S) (k : Nat) (c : iv_C) : Prop := match c with
  | .inl o => fx_sh k = (100 + o.1, o.2.length) ∧ ∀ j, j < o.2.length → o.2[j]? = some (fx_fv σ k o.1 j)
  | .inr (t, n, .inl f) => fx_sh k = (t, n) ∧ (t = 0 ∨ t = 2 ∨ t = 3) ∧ ∀ i, i < n → f i = σ.1 k i
  | .inr (t, n, .inr (.inl f)) => fx_sh k = (t, n) ∧ t = 1 ∧ ∀ i, i < n → f i = σ.2 k i
  | .inr (t, n, .inr (.inr (.inr (.inr f)))) => fx_sh k = (t, n) ∧ 4 ≤ t ∧ t < 99 ∧ ∀ i, i < n → f i = some (fx_rf k i)
  | _ => False
def fx_R (σ : fx_S) (h : iv_H) : Prop := h.length = fx_N ∧ ∀ k, k < fx_N → ∃ c, h[k]? = some c ∧ fx_rc σ k c
/-- an object of class ci; an array of type t with room for i -/
def fx_oc (k ci : Nat) : Bool := Nat.blt k fx_N && Nat.beq (fx_sh k).1 (100 + ci)
def fx_ok (t k : Nat) (i : Int32) : Bool := Nat.blt k fx_N && Nat.beq (fx_sh k).1 t && decide (0 ≤ i) && Nat.blt i.toNatClampNeg (fx_sh k).2
theorem fx_oc_s {k ci : Nat} (h : fx_oc k ci = true) : k < fx_N ∧ (fx_sh k).1 = 100 + ci := by
  simp only [fx_oc, Bool.and_eq_true] at h
  exact ⟨Nat.le_of_ble_eq_true h.1, Nat.eq_of_beq_eq_true h.2⟩
theorem fx_ok_s {t k : Nat} {i : Int32} (h : fx_ok t k i = true) : k < fx_N ∧ (fx_sh k).1 = t ∧ 0 ≤ i ∧ i.toNatClampNeg < (fx_sh k).2 := by
  simp only [fx_ok, Bool.and_eq_true, decide_eq_true_eq] at h
  exact ⟨Nat.le_of_ble_eq_true h.1.1.1, Nat.eq_of_beq_eq_true h.1.1.2, h.1.2, Nat.le_of_ble_eq_true h.2⟩
theorem fx_R_o {σ : fx_S} {h : iv_H} {k ci : Nat} (R : fx_R σ h) (g : fx_oc k ci = true) : ∃ fs : List Value, h[k]? = some (.inl (ci, fs)) ∧ fs.length = (fx_sh k).2 ∧ ∀ j, j < fs.length → fs[j]? = some (fx_fv σ k ci j) := by
  obtain ⟨g1, g2⟩ := fx_oc_s g
  obtain ⟨c, h1, h2⟩ := R.2 k g1
  match c, h2 with
  | .inl (c, fs), h2 =>
    obtain ⟨a1, a2⟩ := h2
    have e : 100 + c = 100 + ci := by rw [← g2, a1]
    have e2 : c = ci := by omega
    subst e2
    exact ⟨fs, h1, by rw [a1], a2⟩
  | .inr (t, n, .inl f), h2 => exact absurd (by rw [← g2, h2.1] : 100 + ci = t) (by rcases h2.2.1 with e | e | e <;> omega)
  | .inr (t, n, .inr (.inl f)), h2 => exact absurd (by rw [← g2, h2.1] : 100 + ci = t) (by have := h2.2.1; omega)
  | .inr (t, n, .inr (.inr (.inl f))), h2 => exact h2.elim
  | .inr (t, n, .inr (.inr (.inr (.inl f)))), h2 => exact h2.elim
  | .inr (t, n, .inr (.inr (.inr (.inr f)))), h2 => exact absurd (by rw [← g2, h2.1] : 100 + ci = t) (by have := h2.2.2.1; omega)
theorem fx_R_i {σ : fx_S} {h : iv_H} {t k : Nat} {i : Int32} (R : fx_R σ h) (g : fx_ok t k i = true) (ht : t = 0 ∨ t = 2 ∨ t = 3) : ∃ (n : Nat) (f : Nat → Int32), h[k]? = some (.inr (t, n, .inl f)) ∧ fx_sh k = (t, n) ∧ i.toNatClampNeg < n ∧ ∀ j, j < n → f j = σ.1 k j := by
  obtain ⟨g1, g2, g3, g4⟩ := fx_ok_s g
  obtain ⟨c, h1, h2⟩ := R.2 k g1
  match c, h2 with
  | .inl (c, fs), h2 => exact absurd (by rw [← g2, h2.1] : t = 100 + c) (by rcases ht with e | e | e <;> omega)
  | .inr (t', n, .inl f), h2 =>
    obtain ⟨a1, a2, a3⟩ := h2
    have e : t' = t := by rw [← g2, a1]
    subst e
    exact ⟨n, f, h1, a1, by rw [a1] at g4; exact g4, a3⟩
  | .inr (t', n, .inr (.inl f)), h2 => exact absurd (by rw [← g2, h2.1] : t = t') (by have := h2.2.1; rcases ht with e | e | e <;> omega)
  | .inr (t', n, .inr (.inr (.inl f))), h2 => exact h2.elim
  | .inr (t', n, .inr (.inr (.inr (.inl f)))), h2 => exact h2.elim
  | .inr (t', n, .inr (.inr (.inr (.inr f)))), h2 => exact absurd (by rw [← g2, h2.1] : t = t') (by have := h2.2.1; rcases ht with e | e | e <;> omega)
theorem fx_R_l {σ : fx_S} {h : iv_H} {k : Nat} {i : Int32} (R : fx_R σ h) (g : fx_ok 1 k i = true) : ∃ (n : Nat) (f : Nat → Int64), h[k]? = some (.inr (1, n, .inr (.inl f))) ∧ fx_sh k = (1, n) ∧ i.toNatClampNeg < n ∧ ∀ j, j < n → f j = σ.2 k j := by
  obtain ⟨g1, g2, g3, g4⟩ := fx_ok_s g
  obtain ⟨c, h1, h2⟩ := R.2 k g1
  match c, h2 with
  | .inl (c, fs), h2 => exact absurd (by rw [← g2, h2.1] : 1 = 100 + c) (by omega)
  | .inr (t', n, .inl f), h2 => exact absurd (by rw [← g2, h2.1] : 1 = t') (by rcases h2.2.1 with e | e | e <;> omega)
  | .inr (t', n, .inr (.inl f)), h2 =>
    obtain ⟨a1, a2, a3⟩ := h2
    subst a2
    exact ⟨n, f, h1, a1, by rw [a1] at g4; exact g4, a3⟩
  | .inr (t', n, .inr (.inr (.inl f))), h2 => exact h2.elim
  | .inr (t', n, .inr (.inr (.inr (.inl f)))), h2 => exact h2.elim
  | .inr (t', n, .inr (.inr (.inr (.inr f)))), h2 => exact absurd (by rw [← g2, h2.1] : 1 = t') (by have := h2.2.1; omega)
theorem fx_R_r {σ : fx_S} {h : iv_H} {t k : Nat} {i : Int32} (R : fx_R σ h) (g : fx_ok t k i = true) (ht : 4 ≤ t ∧ t < 99) : ∃ (n : Nat) (f : Nat → Option Nat), h[k]? = some (.inr (t, n, .inr (.inr (.inr (.inr f))))) ∧ fx_sh k = (t, n) ∧ i.toNatClampNeg < n ∧ ∀ j, j < n → f j = some (fx_rf k j) := by
  obtain ⟨g1, g2, g3, g4⟩ := fx_ok_s g
  obtain ⟨c, h1, h2⟩ := R.2 k g1
  match c, h2 with
  | .inl (c, fs), h2 => exact absurd (by rw [← g2, h2.1] : t = 100 + c) (by omega)
  | .inr (t', n, .inl f), h2 => exact absurd (by rw [← g2, h2.1] : t = t') (by rcases h2.2.1 with e | e | e <;> omega)
  | .inr (t', n, .inr (.inl f)), h2 => exact absurd (by rw [← g2, h2.1] : t = t') (by have := h2.2.1; omega)
  | .inr (t', n, .inr (.inr (.inl f))), h2 => exact h2.elim
  | .inr (t', n, .inr (.inr (.inr (.inl f)))), h2 => exact h2.elim
  | .inr (t', n, .inr (.inr (.inr (.inr f)))), h2 =>
    obtain ⟨a1, a2, a3, a4⟩ := h2
    have e : t' = t := by rw [← g2, a1]
    subst e
    exact ⟨n, f, h1, a1, by rw [a1] at g4; exact g4, a4⟩
/-- another cell's contents stay as they are -/
theorem fx_rc_1 {σ : fx_S} {k a j : Nat} {x : Int32} {c : iv_C} (h : fx_rc σ a c) (hk : a ≠ k) : fx_rc (fx_w1 σ k j x) a c := by
  have e : ∀ b, (fx_w1 σ k j x).1 a b = σ.1 a b := fun b => if_neg fun q => hk q.1
  match c, h with
  | .inl (c, fs), h =>
    refine ⟨h.1, fun i hi => (h.2 i hi).trans ?_⟩
    unfold fx_fv
    rw [e]
    rfl
  | .inr (t, n, .inl f), h => exact ⟨h.1, h.2.1, fun i hi => (h.2.2 i hi).trans (e i).symm⟩
  | .inr (t, n, .inr (.inl f)), h => exact h
  | .inr (t, n, .inr (.inr (.inl f))), h => exact h.elim
  | .inr (t, n, .inr (.inr (.inr (.inl f)))), h => exact h.elim
  | .inr (t, n, .inr (.inr (.inr (.inr f)))), h => exact h
theorem fx_rc_2 {σ : fx_S} {k a j : Nat} {x : Int64} {c : iv_C} (h : fx_rc σ a c) (hk : a ≠ k) : fx_rc (fx_w2 σ k j x) a c := by
  have e : ∀ b, (fx_w2 σ k j x).2 a b = σ.2 a b := fun b => if_neg fun q => hk q.1
  match c, h with
  | .inl (c, fs), h =>
    refine ⟨h.1, fun i hi => (h.2 i hi).trans ?_⟩
    unfold fx_fv
    rw [e]
    rfl
  | .inr (t, n, .inl f), h => exact h
  | .inr (t, n, .inr (.inl f)), h => exact ⟨h.1, h.2.1, fun i hi => (h.2.2 i hi).trans (e i).symm⟩
  | .inr (t, n, .inr (.inr (.inl f))), h => exact h.elim
  | .inr (t, n, .inr (.inr (.inr (.inl f)))), h => exact h.elim
  | .inr (t, n, .inr (.inr (.inr (.inr f)))), h => exact h
theorem fx_R_set {σ τ : fx_S} {h : iv_H} {k : Nat} {c : iv_C} (R : fx_R σ h) (hk : fx_rc τ k c) (ho : ∀ a c', a ≠ k → fx_rc σ a c' → fx_rc τ a c') : fx_R τ (h.set k c) := by
  refine ⟨by rw [List.length_set]; exact R.1, fun a ha => ?_⟩
  by_cases e : k = a
  · subst e
    exact ⟨c, by rw [List.getElem?_set_self (by rw [R.1]; exact ha)], hk⟩
  · obtain ⟨c', h1, h2⟩ := R.2 a ha
    exact ⟨c', by rw [List.getElem?_set_ne e]; exact h1, ho a c' (fun q => e q.symm) h2⟩
theorem fx_R_1 {σ : fx_S} {h : iv_H} {t k n i : Nat} {f : Nat → Int32} {x : Int32} (R : fx_R σ h) (hs : fx_sh k = (t, n)) (ht : t = 0 ∨ t = 2 ∨ t = 3) (hf : ∀ j, j < n → f j = σ.1 k j) : fx_R (fx_w1 σ k i x) (h.set k (.inr (t, n, .inl (upd f i x)))) := by
  refine fx_R_set R ⟨hs, ht, fun j hj => ?_⟩ fun a c' ha hc => fx_rc_1 hc ha
  show (if j = i then x else f j) = if k = k ∧ j = i then x else σ.1 k j
  by_cases e : j = i
  · rw [if_pos e, if_pos ⟨rfl, e⟩]
  · rw [if_neg e, if_neg fun q => e q.2]
    exact hf j hj
theorem fx_R_2 {σ : fx_S} {h : iv_H} {k n i : Nat} {f : Nat → Int64} {x : Int64} (R : fx_R σ h) (hs : fx_sh k = (1, n)) (hf : ∀ j, j < n → f j = σ.2 k j) : fx_R (fx_w2 σ k i x) (h.set k (.inr (1, n, .inr (.inl (vp_updL f i x))))) := by
  refine fx_R_set R ⟨hs, rfl, fun j hj => ?_⟩ fun a c' ha hc => fx_rc_2 hc ha
  show (if j = i then x else f j) = if k = k ∧ j = i then x else σ.2 k j
  by_cases e : j = i
  · rw [if_pos e, if_pos ⟨rfl, e⟩]
  · rw [if_neg e, if_neg fun q => e q.2]
    exact hf j hj
theorem fx_R_f1 {σ : fx_S} {h : iv_H} {k ci j : Nat} {fs : List Value} {x : Int32} (R : fx_R σ h) (hs : fx_sh k = (100 + ci, fs.length)) (ht : iv_ft ci j = .int ∨ iv_ft ci j = .boolean) (hf : ∀ i, i < fs.length → fs[i]? = some (fx_fv σ k ci i)) : fx_R (fx_w1 σ k j x) (h.set k (.inl (ci, fs.set j (.int x)))) := by
  refine fx_R_set R ⟨by rw [List.length_set]; exact hs, fun i hi => ?_⟩ fun a c' ha hc => fx_rc_1 hc ha
  rw [List.length_set] at hi
  show (fs.set j (.int x))[i]? = _
  by_cases e : j = i
  · subst e
    rw [List.getElem?_set_self hi]
    unfold fx_fv
    have e2 : (fx_w1 σ k j x).1 k j = x := if_pos ⟨rfl, rfl⟩
    rcases ht with q | q <;> rw [q, e2]
  · rw [List.getElem?_set_ne e, hf i hi]
    unfold fx_fv
    have e2 : (fx_w1 σ k j x).1 k i = σ.1 k i := if_neg fun q => e q.2.symm
    rw [e2]
    rfl
theorem fx_R_f2 {σ : fx_S} {h : iv_H} {k ci j : Nat} {fs : List Value} {x : Int64} (R : fx_R σ h) (hs : fx_sh k = (100 + ci, fs.length)) (ht : iv_ft ci j = .long) (hf : ∀ i, i < fs.length → fs[i]? = some (fx_fv σ k ci i)) : fx_R (fx_w2 σ k j x) (h.set k (.inl (ci, fs.set j (.long x)))) := by
  refine fx_R_set R ⟨by rw [List.length_set]; exact hs, fun i hi => ?_⟩ fun a c' ha hc => fx_rc_2 hc ha
  rw [List.length_set] at hi
  show (fs.set j (.long x))[i]? = _
  by_cases e : j = i
  · subst e
    rw [List.getElem?_set_self hi]
    unfold fx_fv
    have e2 : (fx_w2 σ k j x).2 k j = x := if_pos ⟨rfl, rfl⟩
    rw [ht, e2]
  · rw [List.getElem?_set_ne e, hf i hi]
    unfold fx_fv
    have e2 : (fx_w2 σ k j x).2 k i = σ.2 k i := if_neg fun q => e q.2.symm
    rw [e2]
    rfl
/-- accesses of arrays -/
def fx_ld (σ : fx_S) (k : Nat) (i : Int32) : Option Int32 := if fx_ok 0 k i = true then some (σ.1 k i.toNatClampNeg) else none
def fx_ldb (σ : fx_S) (k : Nat) (i : Int32) : Option Int32 := if fx_ok 3 k i = true ∨ fx_ok 2 k i = true then some (σ.1 k i.toNatClampNeg) else none
def fx_ldl (σ : fx_S) (k : Nat) (i : Int32) : Option Int64 := if fx_ok 1 k i = true then some (σ.2 k i.toNatClampNeg) else none
def fx_ldr (t k : Nat) (i : Int32) : Option Nat := if fx_ok t k i = true then some (fx_rf k i.toNatClampNeg) else none
def fx_st (σ : fx_S) (k : Nat) (i x : Int32) : Option fx_S := if fx_ok 0 k i = true then some (fx_w1 σ k i.toNatClampNeg x) else none
def fx_stb (σ : fx_S) (k : Nat) (i x : Int32) : Option fx_S := if fx_ok 3 k i = true then some (fx_w1 σ k i.toNatClampNeg (vp_nar .byte x)) else if fx_ok 2 k i = true then some (fx_w1 σ k i.toNatClampNeg (vp_nar .boolean x)) else none
def fx_stl (σ : fx_S) (k : Nat) (i : Int32) (x : Int64) : Option fx_S := if fx_ok 1 k i = true then some (fx_w2 σ k i.toNatClampNeg x) else none
def fx_len (k : Nat) : Int32 := Int32.ofNat (fx_sh k).2
def fx_cp (σ : fx_S) (a sp b dp n : Nat) : fx_S := (fun k j => if k = b ∧ dp ≤ j ∧ j < dp + n then σ.1 a (sp + (j - dp)) else σ.1 k j, σ.2)
def fx_cpy (σ : fx_S) (a : Nat) (sp : Int32) (b : Nat) (dp n : Int32) : Option fx_S :=
  if Nat.blt a fx_N = true ∧ Nat.blt b fx_N = true ∧ (fx_sh a).1 = 0 ∧ (fx_sh b).1 = 0 ∧ 0 ≤ sp ∧ 0 ≤ dp ∧ 0 ≤ n ∧ sp.toNatClampNeg + n.toNatClampNeg ≤ (fx_sh a).2 ∧ dp.toNatClampNeg + n.toNatClampNeg ≤ (fx_sh b).2 then some (fx_cp σ a sp.toNatClampNeg b dp.toNatClampNeg n.toNatClampNeg) else none
def fx_b (b : Bool) : Int32 := if b = true then 1 else 0
/-- what a write of slot i leaves of the local below it -/
def fx_kl (o : Option Value) : Option Value := match o with
  | some (.long _) => none
  | some (.double _) => none
  | o => o
theorem fx_k_s (al : iv_L) (i : Nat) : iv_k al (i + 1) = match al[i]? with
    | some o => al.set i (fx_kl o)
    | none => al := by
  unfold iv_k
  dsimp only
  cases h : al[i]? with
  | none => rfl
  | some o =>
    cases o with
    | none =>
      show al = al.set i none
      exact (iv_set_self h).symm
    | some w =>
      cases w with
      | long x => rfl
      | double x => rfl
      | _ => exact (iv_set_self h).symm
/-- FROM A PLACE: whatever heap holds σ, the run ends with v, in a heap that holds τ -/
def fx_E (z : iv_Z) (mi d pc : Nat) (al : iv_L) (st : List Value) (σ : fx_S) (v : Option Value) (τ : fx_S) : Prop := ∀ h : iv_H, fx_R σ h → ∃ (n : Nat) (h' : iv_H), iv_run z n d mi (pc, al, st, h) = some (v, h') ∧ fx_R τ h'
section
variable {z : iv_Z} {mi d pc pc' : Nat} {al al' : iv_L} {st st' : List Value} {σ σ2 τ : fx_S} {v : Option Value} {op : Jvm.ClassFile.Instr}
theorem fx_p (hc : iv_cd mi pc = some op) (h0 : iv_isr op = false) (h1 : ∀ h : iv_H, iv_ca z mi op st h = none) (h2 : ∀ h : iv_H, iv_op z mi pc op al st h = some (pc', al', st', none)) (E : fx_E z mi d pc' al' st' σ v τ) : fx_E z mi d pc al st σ v τ := by
  intro h R
  obtain ⟨n, h', e, R'⟩ := E h R
  exact ⟨n + 1, h', iv_rs hc h0 (h1 h) (h2 h) rfl e, R'⟩
theorem fx_q (hc : iv_cd mi pc = some op) (h0 : iv_isr op = false) (h1 : ∀ h : iv_H, iv_ca z mi op st h = none) (h2 : ∀ h : iv_H, fx_R σ h → iv_op z mi pc op al st h = some (pc', al', st', none)) (E : fx_E z mi d pc' al' st' σ v τ) : fx_E z mi d pc al st σ v τ := by
  intro h R
  obtain ⟨n, h', e, R'⟩ := E h R
  exact ⟨n + 1, h', iv_rs hc h0 (h1 h) (h2 h R) rfl e, R'⟩
theorem fx_s (hc : iv_cd mi pc = some op) (h0 : iv_isr op = false) (h1 : ∀ h : iv_H, iv_ca z mi op st h = none) (h2 : ∀ h : iv_H, fx_R σ h → ∃ (k : Nat) (c c0 : iv_C), iv_op z mi pc op al st h = some (pc', al', st', some (some k, c)) ∧ h[k]? = some c0 ∧ iv_cz c0 = iv_cz c ∧ fx_R σ2 (h.set k c)) (E : fx_E z mi d pc' al' st' σ2 v τ) : fx_E z mi d pc al st σ v τ := by
  intro h R
  obtain ⟨k, c, c0, e1, e2, e3, R2⟩ := h2 h R
  obtain ⟨n, h', e, R'⟩ := E _ R2
  refine ⟨n + 1, h', iv_rs hc h0 (h1 h) e1 ?_ e, R'⟩
  unfold iv_ef
  dsimp only
  rw [e2]
  exact if_pos (congrArg some e3)
theorem fx_if {α : Type} {c : Prop} [Decidable c] {a b : Option α} {r : α} (h : (if c then a else b) = some r) : (c ∧ a = some r) ∨ (¬ c ∧ b = some r) := by
  by_cases q : c
  · rw [if_pos q] at h; exact Or.inl ⟨q, h⟩
  · rw [if_neg q] at h; exact Or.inr ⟨q, h⟩
theorem fx_bd {α β : Type} {a : Option α} {f : α → Option β} {r : β} (h : a.bind f = some r) : ∃ x, a = some x ∧ f x = some r := Option.bind_eq_some_iff.mp h
theorem fx_no {α : Type} {r : α} (h : (none : Option α) = some r) {P : Prop} : P := by cases h
end
