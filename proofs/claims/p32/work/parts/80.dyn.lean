/-! DYNAMIC CELLS, behind the class's: ints and longs, references, shapes as functions; numbers whole -/
def dS : Type := (Nat → Nat → Int) × (Nat → Nat → Option Nat) × (Nat → Nat × Nat) × Nat
abbrev DS : Type := gx_S × dS
def dS.I (δ : dS) : Nat → Nat → Int := δ.1
def dS.P (δ : dS) : Nat → Nat → Option Nat := δ.2.1
def dS.sh (δ : dS) : Nat → Nat × Nat := δ.2.2.1
def dS.n (δ : dS) : Nat := δ.2.2.2
def dS.w (δ : dS) (k j : Nat) (x : Int) : dS := (fun a b => if a = k ∧ b = j then x else δ.I a b, δ.P, δ.sh, δ.n)
def dS.r (δ : dS) (k j : Nat) (o : Option Nat) : dS := (δ.I, fun a b => if a = k ∧ b = j then o else δ.P a b, δ.sh, δ.n)
def dS.al (δ : dS) (t m : Nat) : dS := (fun a b => if a = δ.n then 0 else δ.I a b, fun a b => if a = δ.n then none else δ.P a b, fun a => if a = δ.n then (t, m) else δ.sh a, δ.n + 1)
def dS.cl (δ : dS) (k : Nat) : dS := (fun a b => if a = δ.n then δ.I k b else δ.I a b, fun a b => if a = δ.n then none else δ.P a b, fun a => if a = δ.n then δ.sh k else δ.sh a, δ.n + 1)
def dS.mu (δ : dS) (m k : Nat) : dS := (fun a b => if δ.n ≤ a then 0 else δ.I a b, fun a b => if a = δ.n then (if b < m then some (δ.n + 1 + b) else none) else if δ.n < a then none else δ.P a b, fun a => if a = δ.n then (6, m) else if δ.n < a then (0, k) else δ.sh a, δ.n + 1 + m)
def dS.cp (δ : dS) (a sp b dp m : Nat) : dS := (fun k j => if k = b ∧ dp ≤ j ∧ j < dp + m then δ.I a (sp + (j - dp)) else δ.I k j, δ.P, δ.sh, δ.n)
/-- bytes out of a read-only array -/
def dS.cz (δ : dS) (f : Nat → Int32) (sp b dp m : Nat) : dS := (fun k j => if k = b ∧ dp ≤ j ∧ j < dp + m then (f (sp + (j - dp))).toInt else δ.I k j, δ.P, δ.sh, δ.n)
def dty (t : FieldType) : Nat := match t with
  | .int => 0
  | .boolean => 0
  | .byte => 0
  | .char => 0
  | .long => 1
  | .object _ => 2
  | .array _ => 2
  | _ => 9
def dnf (c : Nat) : Nat := match iv_cl[c]? with
  | some q => q.2.2
  | none => 0
def dv (δ : dS) (k c j : Nat) : Value := match dty (iv_ft c j) with
  | 0 => .int (Int32.ofInt (δ.I k j))
  | 1 => .long (Int64.ofInt (δ.I k j))
  | _ => match δ.P k j with
    | none => .null
    | some q => .ref q
def dc (δ : dS) (k : Nat) (c : iv_C) : Prop := match c with
  | .inl o => δ.sh k = (100 + o.1, o.2.length) ∧ ∀ j, j < o.2.length → o.2[j]? = some (dv δ k o.1 j)
  | .inr (t, n, .inl f) => δ.sh k = (t, n) ∧ (t = 0 ∨ t = 2 ∨ t = 3) ∧ ∀ i, i < n → f i = Int32.ofInt (δ.I k i)
  | .inr (t, n, .inr (.inl f)) => δ.sh k = (t, n) ∧ t = 1 ∧ ∀ i, i < n → f i = Int64.ofInt (δ.I k i)
  | .inr (t, n, .inr (.inr (.inr (.inr f)))) => δ.sh k = (t, n) ∧ 4 ≤ t ∧ t < 99 ∧ ∀ i, i < n → f i = δ.P k i
  | _ => False
def dR (S : DS) (h : iv_H) : Prop := h.length = S.2.n ∧ 215 ≤ S.2.n ∧ fx_R (gx S.1) (h.take 215) ∧ ∀ k, 215 ≤ k → k < S.2.n → (S.2.sh k).2 ≤ 60000000 ∧ ∃ c, h[k]? = some c ∧ dc S.2 k c
def dE (z : iv_Z) (mi d pc : Nat) (al : iv_L) (st : List Value) (S : DS) (v : Option Value) (T : DS) : Prop := ∀ h : iv_H, dR S h → ∃ (n : Nat) (h' : iv_H), iv_run z n d mi (pc, al, st, h) = some (v, h') ∧ dR T h'
abbrev dO (δ : dS) (k ci : Nat) : Prop := 215 ≤ k ∧ k < δ.n ∧ δ.sh k = (100 + ci, dnf ci)
abbrev dA (δ : dS) (t k : Nat) : Prop := 215 ≤ k ∧ k < δ.n ∧ (δ.sh k).1 = t
/-- a place in an array -/
abbrev dI (δ : dS) (k : Nat) (i : Int) : Prop := 0 ≤ i ∧ i < ((δ.sh k).2 : Int)
theorem dR_o {S : DS} {h : iv_H} {k ci : Nat} (R : dR S h) (g : dO S.2 k ci) : ∃ fs : List Value, h[k]? = some (.inl (ci, fs)) ∧ fs.length = dnf ci ∧ ∀ j, j < fs.length → fs[j]? = some (dv S.2 k ci j) := by
  obtain ⟨g0, g1, g2⟩ := g
  obtain ⟨-, c, h1, h2⟩ := R.2.2.2 k g0 g1
  match c, h2 with
  | .inl (c, fs), h2 =>
    obtain ⟨a1, a2⟩ := h2
    have e := g2.symm.trans a1
    have e1 : 100 + ci = 100 + c := congrArg Prod.fst e
    have e2 : dnf ci = fs.length := congrArg Prod.snd e
    have e3 : c = ci := by omega
    subst e3
    exact ⟨fs, h1, e2.symm, a2⟩
  | .inr (t, n, .inl f), h2 => exact absurd (congrArg Prod.fst (g2.symm.trans h2.1) : 100 + ci = t) (by rcases h2.2.1 with e | e | e <;> omega)
  | .inr (t, n, .inr (.inl f)), h2 => exact absurd (congrArg Prod.fst (g2.symm.trans h2.1) : 100 + ci = t) (by have := h2.2.1; omega)
  | .inr (t, n, .inr (.inr (.inl f))), h2 => exact h2.elim
  | .inr (t, n, .inr (.inr (.inr (.inl f)))), h2 => exact h2.elim
  | .inr (t, n, .inr (.inr (.inr (.inr f)))), h2 => exact absurd (congrArg Prod.fst (g2.symm.trans h2.1) : 100 + ci = t) (by have := h2.2.2.1; omega)
theorem dR_i {S : DS} {h : iv_H} {t k : Nat} (R : dR S h) (g : dA S.2 t k) (ht : t = 0 ∨ t = 2 ∨ t = 3) : ∃ (n : Nat) (f : Nat → Int32), h[k]? = some (.inr (t, n, .inl f)) ∧ S.2.sh k = (t, n) ∧ n ≤ 60000000 ∧ ∀ j, j < n → f j = Int32.ofInt (S.2.I k j) := by
  obtain ⟨g0, g1, g2⟩ := g
  obtain ⟨hb, c, h1, h2⟩ := R.2.2.2 k g0 g1
  match c, h2 with
  | .inl (c, fs), h2 => exact absurd (g2.symm.trans (congrArg Prod.fst h2.1) : t = 100 + c) (by rcases ht with e | e | e <;> omega)
  | .inr (t', n, .inl f), h2 =>
    obtain ⟨a1, a2, a3⟩ := h2
    have e : t = t' := g2.symm.trans (congrArg Prod.fst a1)
    subst e
    exact ⟨n, f, h1, a1, by rw [a1] at hb; exact hb, a3⟩
  | .inr (t', n, .inr (.inl f)), h2 => exact absurd (g2.symm.trans (congrArg Prod.fst h2.1) : t = t') (by have := h2.2.1; rcases ht with e | e | e <;> omega)
  | .inr (t', n, .inr (.inr (.inl f))), h2 => exact h2.elim
  | .inr (t', n, .inr (.inr (.inr (.inl f)))), h2 => exact h2.elim
  | .inr (t', n, .inr (.inr (.inr (.inr f)))), h2 => exact absurd (g2.symm.trans (congrArg Prod.fst h2.1) : t = t') (by have := h2.2.1; rcases ht with e | e | e <;> omega)
theorem dR_l {S : DS} {h : iv_H} {k : Nat} (R : dR S h) (g : dA S.2 1 k) : ∃ (n : Nat) (f : Nat → Int64), h[k]? = some (.inr (1, n, .inr (.inl f))) ∧ S.2.sh k = (1, n) ∧ n ≤ 60000000 ∧ ∀ j, j < n → f j = Int64.ofInt (S.2.I k j) := by
  obtain ⟨g0, g1, g2⟩ := g
  obtain ⟨hb, c, h1, h2⟩ := R.2.2.2 k g0 g1
  match c, h2 with
  | .inl (c, fs), h2 => exact absurd (g2.symm.trans (congrArg Prod.fst h2.1) : 1 = 100 + c) (by omega)
  | .inr (t', n, .inl f), h2 => exact absurd (g2.symm.trans (congrArg Prod.fst h2.1) : 1 = t') (by rcases h2.2.1 with e | e | e <;> omega)
  | .inr (t', n, .inr (.inl f)), h2 =>
    obtain ⟨a1, a2, a3⟩ := h2
    subst a2
    exact ⟨n, f, h1, a1, by rw [a1] at hb; exact hb, a3⟩
  | .inr (t', n, .inr (.inr (.inl f))), h2 => exact h2.elim
  | .inr (t', n, .inr (.inr (.inr (.inl f)))), h2 => exact h2.elim
  | .inr (t', n, .inr (.inr (.inr (.inr f)))), h2 => exact absurd (g2.symm.trans (congrArg Prod.fst h2.1) : 1 = t') (by have := h2.2.1; omega)
theorem dR_r {S : DS} {h : iv_H} {t k : Nat} (R : dR S h) (g : dA S.2 t k) (ht : 4 ≤ t ∧ t < 99) : ∃ (n : Nat) (f : Nat → Option Nat), h[k]? = some (.inr (t, n, .inr (.inr (.inr (.inr f))))) ∧ S.2.sh k = (t, n) ∧ n ≤ 60000000 ∧ ∀ j, j < n → f j = S.2.P k j := by
  obtain ⟨g0, g1, g2⟩ := g
  obtain ⟨hb, c, h1, h2⟩ := R.2.2.2 k g0 g1
  match c, h2 with
  | .inl (c, fs), h2 => exact absurd (g2.symm.trans (congrArg Prod.fst h2.1) : t = 100 + c) (by omega)
  | .inr (t', n, .inl f), h2 => exact absurd (g2.symm.trans (congrArg Prod.fst h2.1) : t = t') (by rcases h2.2.1 with e | e | e <;> omega)
  | .inr (t', n, .inr (.inl f)), h2 => exact absurd (g2.symm.trans (congrArg Prod.fst h2.1) : t = t') (by have := h2.2.1; omega)
  | .inr (t', n, .inr (.inr (.inl f))), h2 => exact h2.elim
  | .inr (t', n, .inr (.inr (.inr (.inl f)))), h2 => exact h2.elim
  | .inr (t', n, .inr (.inr (.inr (.inr f)))), h2 =>
    obtain ⟨a1, a2, a3, a4⟩ := h2
    have e : t = t' := g2.symm.trans (congrArg Prod.fst a1)
    subst e
    exact ⟨n, f, h1, a1, by rw [a1] at hb; exact hb, a4⟩
theorem dtk_set {h : iv_H} {k : Nat} {c : iv_C} (hk : 215 ≤ k) : (h.set k c).take 215 = h.take 215 := by
  apply List.ext_getElem?
  intro j
  rw [List.getElem?_take, List.getElem?_take]
  split
  · rw [List.getElem?_set_ne (by omega)]
  · rfl
theorem dtk_app {h x : iv_H} (hk : 215 ≤ h.length) : (h ++ x).take 215 = h.take 215 := by
  apply List.ext_getElem?
  intro j
  rw [List.getElem?_take, List.getElem?_take]
  split
  · rw [List.getElem?_append_left (by omega)]
  · rfl
/-- one cell's contents are others -/
theorem dR_set {S : DS} {δ : dS} {h : iv_H} {k : Nat} {c : iv_C} (R : dR S h) (h0 : 215 ≤ k) (hn : δ.n = S.2.n) (hs : δ.sh = S.2.sh) (hk : k < S.2.n → dc δ k c) (ho : ∀ a c', a ≠ k → dc S.2 a c' → dc δ a c') : dR (S.1, δ) (h.set k c) := by
  refine ⟨by rw [List.length_set]; exact R.1.trans hn.symm, by rw [hn]; exact R.2.1, by rw [dtk_set h0]; exact R.2.2.1, fun a ha hal => ?_⟩
  rw [hn] at hal
  obtain ⟨hb, c', h1, h2⟩ := R.2.2.2 a ha hal
  refine ⟨by show (δ.sh a).2 ≤ _; rw [hs]; exact hb, ?_⟩
  by_cases e : k = a
  · subst e
    exact ⟨c, by rw [List.getElem?_set_self (by rw [R.1]; exact hal)], hk hal⟩
  · exact ⟨c', by rw [List.getElem?_set_ne e]; exact h1, ho a c' (fun q => e q.symm) h2⟩
theorem dc_w {δ : dS} {k a j : Nat} {x : Int} {c : iv_C} (hk : a ≠ k) (h : dc δ a c) : dc (δ.w k j x) a c := by
  have e : ∀ b, (δ.w k j x).I a b = δ.I a b := fun b => if_neg fun q => hk q.1
  match c, h with
  | .inl (c, fs), h =>
    refine ⟨h.1, fun i hi => (h.2 i hi).trans ?_⟩
    unfold dv
    rw [e]
    rfl
  | .inr (t, n, .inl f), h => exact ⟨h.1, h.2.1, fun i hi => (h.2.2 i hi).trans (by rw [e])⟩
  | .inr (t, n, .inr (.inl f)), h => exact ⟨h.1, h.2.1, fun i hi => (h.2.2 i hi).trans (by rw [e])⟩
  | .inr (t, n, .inr (.inr (.inl f))), h => exact h.elim
  | .inr (t, n, .inr (.inr (.inr (.inl f)))), h => exact h.elim
  | .inr (t, n, .inr (.inr (.inr (.inr f)))), h => exact h
theorem dc_r {δ : dS} {k a j : Nat} {o : Option Nat} {c : iv_C} (hk : a ≠ k) (h : dc δ a c) : dc (δ.r k j o) a c := by
  have e : ∀ b, (δ.r k j o).P a b = δ.P a b := fun b => if_neg fun q => hk q.1
  match c, h with
  | .inl (c, fs), h =>
    refine ⟨h.1, fun i hi => (h.2 i hi).trans ?_⟩
    unfold dv
    rw [e]
    rfl
  | .inr (t, n, .inl f), h => exact h
  | .inr (t, n, .inr (.inl f)), h => exact h
  | .inr (t, n, .inr (.inr (.inl f))), h => exact h.elim
  | .inr (t, n, .inr (.inr (.inr (.inl f)))), h => exact h.elim
  | .inr (t, n, .inr (.inr (.inr (.inr f)))), h => exact ⟨h.1, h.2.1, h.2.2.1, fun i hi => (h.2.2.2 i hi).trans (e i).symm⟩
/-- what a cell holds asks of its own numbers alone -/
theorem dc_eq {δ δ' : dS} {a : Nat} {c : iv_C} (hi : ∀ b, δ'.I a b = δ.I a b) (hp : ∀ b, δ'.P a b = δ.P a b) (hs : δ'.sh a = δ.sh a) (h : dc δ a c) : dc δ' a c := by
  match c, h with
  | .inl (c, fs), h =>
    refine ⟨hs.trans h.1, fun i hj => (h.2 i hj).trans ?_⟩
    unfold dv
    rw [hi, hp]
  | .inr (t, n, .inl f), h => exact ⟨hs.trans h.1, h.2.1, fun i hj => (h.2.2 i hj).trans (by rw [hi])⟩
  | .inr (t, n, .inr (.inl f)), h => exact ⟨hs.trans h.1, h.2.1, fun i hj => (h.2.2 i hj).trans (by rw [hi])⟩
  | .inr (t, n, .inr (.inr (.inl f))), h => exact h.elim
  | .inr (t, n, .inr (.inr (.inr (.inl f)))), h => exact h.elim
  | .inr (t, n, .inr (.inr (.inr (.inr f)))), h => exact ⟨hs.trans h.1, h.2.1, h.2.2.1, fun i hj => (h.2.2.2 i hj).trans (hp i).symm⟩
/-- cells more -/
theorem dR_app {S : DS} {δ : dS} {h x : iv_H} (R : dR S h) (hn : δ.n = S.2.n + x.length) (hi : ∀ a, a < S.2.n → (∀ b, δ.I a b = S.2.I a b) ∧ (∀ b, δ.P a b = S.2.P a b) ∧ δ.sh a = S.2.sh a) (hx : ∀ j c, x[j]? = some c → (δ.sh (S.2.n + j)).2 ≤ 60000000 ∧ dc δ (S.2.n + j) c) : dR (S.1, δ) (h ++ x) := by
  refine ⟨by rw [List.length_append, R.1]; exact hn.symm, by show 215 ≤ δ.n; have := R.2.1; omega, by rw [dtk_app (by rw [R.1]; exact R.2.1)]; exact R.2.2.1, fun a ha hal => ?_⟩
  have hal' : a < S.2.n + x.length := by rw [← hn]; exact hal
  by_cases hl : a < S.2.n
  · obtain ⟨hb, c, h1, h2⟩ := R.2.2.2 a ha hl
    obtain ⟨i1, i2, i3⟩ := hi a hl
    refine ⟨by show (δ.sh a).2 ≤ _; rw [i3]; exact hb, c, by rw [List.getElem?_append_left (by rw [R.1]; exact hl)]; exact h1, dc_eq i1 i2 i3 h2⟩
  · have hj : a - S.2.n < x.length := by omega
    obtain ⟨g1, g2⟩ := hx (a - S.2.n) _ (List.getElem?_eq_getElem hj)
    rw [show S.2.n + (a - S.2.n) = a by omega] at g1 g2
    refine ⟨g1, _, ?_, g2⟩
    rw [List.getElem?_append_right (by rw [R.1]; omega), R.1]
    exact List.getElem?_eq_getElem hj
section
variable {z : iv_Z} {mi d pc pc' : Nat} {al al' : iv_L} {st st' : List Value} {S S2 T : DS} {v : Option Value} {op : Jvm.ClassFile.Instr}
theorem dx_p (hc : iv_cd mi pc = some op) (h0 : iv_isr op = false) (h1 : ∀ h : iv_H, iv_ca z mi op st h = none) (h2 : ∀ h : iv_H, iv_op z mi pc op al st h = some (pc', al', st', none)) (E : dE z mi d pc' al' st' S v T) : dE z mi d pc al st S v T := by
  intro h R
  obtain ⟨n, h', e, R'⟩ := E h R
  exact ⟨n + 1, h', iv_rs hc h0 (h1 h) (h2 h) rfl e, R'⟩
theorem dx_q (hc : iv_cd mi pc = some op) (h0 : iv_isr op = false) (h1 : ∀ h : iv_H, iv_ca z mi op st h = none) (h2 : ∀ h : iv_H, dR S h → iv_op z mi pc op al st h = some (pc', al', st', none)) (E : dE z mi d pc' al' st' S v T) : dE z mi d pc al st S v T := by
  intro h R
  obtain ⟨n, h', e, R'⟩ := E h R
  exact ⟨n + 1, h', iv_rs hc h0 (h1 h) (h2 h R) rfl e, R'⟩
theorem dx_s (hc : iv_cd mi pc = some op) (h0 : iv_isr op = false) (h1 : ∀ h : iv_H, iv_ca z mi op st h = none) (h2 : ∀ h : iv_H, dR S h → ∃ (k : Nat) (c c0 : iv_C), iv_op z mi pc op al st h = some (pc', al', st', some (some k, c)) ∧ h[k]? = some c0 ∧ iv_cz c0 = iv_cz c ∧ dR S2 (h.set k c)) (E : dE z mi d pc' al' st' S2 v T) : dE z mi d pc al st S v T := by
  intro h R
  obtain ⟨k, c, c0, e1, e2, e3, R2⟩ := h2 h R
  obtain ⟨n, h', e, R'⟩ := E _ R2
  refine ⟨n + 1, h', iv_rs hc h0 (h1 h) e1 ?_ e, R'⟩
  unfold iv_ef
  dsimp only
  rw [e2]
  exact if_pos (congrArg some e3)
theorem dx_a (hc : iv_cd mi pc = some op) (h0 : iv_isr op = false) (h1 : ∀ h : iv_H, iv_ca z mi op st h = none) (h2 : ∀ h : iv_H, dR S h → ∃ c : iv_C, iv_op z mi pc op al st h = some (pc', al', st', some (none, c)) ∧ dR S2 (h ++ [c])) (E : dE z mi d pc' al' st' S2 v T) : dE z mi d pc al st S v T := by
  intro h R
  obtain ⟨c, e1, R2⟩ := h2 h R
  obtain ⟨n, h', e, R'⟩ := E _ R2
  exact ⟨n + 1, h', iv_rs hc h0 (h1 h) e1 rfl e, R'⟩
theorem dx_call {args rest : List Value} {mj : Nat} {u : Option Value} (hc : iv_cd mi pc = some op) (h0 : iv_isr op = false) (h1 : ∀ h : iv_H, dR S h → iv_ca z mi op st h = some (mj, args, rest)) (hd : 0 < d) (C : ∀ d', d = d' + 1 → dE z mj d' 0 (iv_en mj args) [] S u S2) (E : dE z mi d (pc + 3) al (u.toList ++ rest) S2 v T) : dE z mi d pc al st S v T := by
  intro h R
  obtain ⟨d', rfl⟩ : ∃ d', d = d' + 1 := ⟨d - 1, by omega⟩
  obtain ⟨n1, h2, e1, R2⟩ := C d' rfl h R
  obtain ⟨n2, h3, e2, R3⟩ := E h2 R2
  refine ⟨max n1 n2 + 1, h3, ?_, R3⟩
  unfold iv_run
  dsimp only
  rw [hc]
  dsimp only
  rw [if_neg (by rw [h0]; decide), h1 h R]
  dsimp only
  rw [iv_run_up e1 (Nat.le_max_left n1 n2)]
  dsimp only
  exact iv_run_up e2 (Nat.le_max_right n1 n2)
theorem dx_ret (hc : iv_cd mi pc = some op) (h0 : iv_isr op = true) (h1 : iv_re mi op st = some v) : dE z mi d pc al st S v S := by
  intro h R
  refine ⟨1, h, ?_, R⟩
  unfold iv_run
  dsimp only
  rw [hc]
  dsimp only
  rw [if_pos h0, h1]
  rfl
/-- the class's own methods: what they do to its cells, with others behind -/
theorem dx_cls {s s2 : gx_S} {δ : dS} {mj d' : Nat} {al2 : iv_L} {u : Option Value} (E : fx_E z mj d' 0 al2 [] (gx s) u (gx s2)) : dE z mj d' 0 al2 [] (s, δ) u (s2, δ) := by
  intro h R
  obtain ⟨n, h', e, R'⟩ := E _ R.2.2.1
  have hl : h'.length = (h.take 215).length := R'.1.trans R.2.2.1.1.symm
  have g := fr_run n z d' mj _ _ (h.drop 215) e hl
  dsimp only at g
  rw [List.take_append_drop] at g
  have l0 : (h.take 215).length = 215 := R.2.2.1.1
  have l1 : h'.length = 215 := hl.trans l0
  refine ⟨n, h' ++ h.drop 215, g, ?_, R.2.1, ?_, fun k hk hkn => ?_⟩
  · have a1 : h.length = δ.n := R.1
    have a2 : 215 ≤ δ.n := R.2.1
    show _ = δ.n
    rw [List.length_append, l1, List.length_drop]
    omega
  · rw [← l1, List.take_left']
    · exact R'
    · rfl
  · obtain ⟨hb, c, h1, h2⟩ := R.2.2.2 k hk hkn
    refine ⟨hb, c, ?_, h2⟩
    rw [List.getElem?_append_right (by omega), l1, List.getElem?_drop, show 215 + (k - 215) = k by omega]
    exact h1
end
section
variable {z : iv_Z} {mi d pc p : Nat} {al al' : iv_L} {r : List Value} {S T S2 : DS} {v : Option Value}
theorem ds_iconst {n : Int} {x : Int32} (hc : iv_cd mi pc = some (.iconst n)) (hp : pc + 1 = p) (hx : Int32.ofInt n = x) (E : dE z mi d p al (.int x :: r) S v T) : dE z mi d pc al (r) S v T := by
  subst hp
  subst hx
  exact dx_p hc rfl (fun _ => rfl) (fun _ => rfl) E
theorem ds_bipush {n : Int} {x : Int32} (hc : iv_cd mi pc = some (.bipush n)) (hp : pc + 2 = p) (hx : (Int8.ofInt n).toInt32 = x) (E : dE z mi d p al (.int x :: r) S v T) : dE z mi d pc al (r) S v T := by
  subst hp
  subst hx
  exact dx_p hc rfl (fun _ => rfl) (fun _ => rfl) E
theorem ds_sipush {n : Int} {x : Int32} (hc : iv_cd mi pc = some (.sipush n)) (hp : pc + 3 = p) (hx : (Int16.ofInt n).toInt32 = x) (E : dE z mi d p al (.int x :: r) S v T) : dE z mi d pc al (r) S v T := by
  subst hp
  subst hx
  exact dx_p hc rfl (fun _ => rfl) (fun _ => rfl) E
theorem ds_lconst {n : Fin 2} {x : Int64} (hc : iv_cd mi pc = some (.lconst n)) (hp : pc + 1 = p) (hx : Int64.ofNat (n : Nat) = x) (E : dE z mi d p al (.long x :: r) S v T) : dE z mi d pc al r S v T := by
  subst hp hx
  exact dx_p hc rfl (fun _ => rfl) (fun _ => rfl) E
theorem ds_ldc {idx : Nat} {x : Int32} (hc : iv_cd mi pc = some (.ldc idx)) (hp : pc + 2 = p) (hx : iv_lc (iv_kf mi) idx = some x) (E : dE z mi d p al (.int x :: r) S v T) : dE z mi d pc al r S v T := by
  subst hp
  exact dx_p hc rfl (fun _ => rfl) (fun _ => (by simp only [iv_op, iv_sem]; rw [hx]; rfl)) E
theorem ds_ldc2 {idx : Nat} {x : Int64} (hc : iv_cd mi pc = some (.ldc2_w idx)) (hp : pc + 3 = p) (hx : iv_l2 (iv_kf mi) idx = some x) (E : dE z mi d p al (.long x :: r) S v T) : dE z mi d pc al r S v T := by
  subst hp
  exact dx_p hc rfl (fun _ => rfl) (fun _ => (by show id_l2 mi (pc + 3) idx al _ = _; unfold id_l2; rw [hx]; rfl)) E
theorem ds_ldcw {idx : Nat} {x : Int32} (hc : iv_cd mi pc = some (.ldc_w idx)) (hp : pc + 3 = p) (hx : iv_lc (iv_kf mi) idx = some x) (E : dE z mi d p al (.int x :: r) S v T) : dE z mi d pc al r S v T := by
  subst hp
  exact dx_p hc rfl (fun _ => rfl) (fun _ => (by show (iv_lc (iv_kf mi) idx).bind _ = _; rw [hx]; rfl)) E
theorem ds_iload_n {k : Fin 4} {x : Int32} (hc : iv_cd mi pc = some (.iload_n k)) (hp : pc + 1 = p) (hl : al[(k : Nat)]? = some (some (.int x))) (E : dE z mi d p al (.int x :: r) S v T) : dE z mi d pc al r S v T := by
  subst hp
  exact dx_p hc rfl (fun _ => rfl) (fun _ => (by show iv_li al (k : Nat) _ = _; unfold iv_li; rw [hl]; rfl)) E
theorem ds_iload {k : Nat} {x : Int32} (hc : iv_cd mi pc = some (.iload k)) (hp : pc + 2 = p) (hl : al[(k : Nat)]? = some (some (.int x))) (E : dE z mi d p al (.int x :: r) S v T) : dE z mi d pc al r S v T := by
  subst hp
  exact dx_p hc rfl (fun _ => rfl) (fun _ => (by show iv_li al (k : Nat) _ = _; unfold iv_li; rw [hl]; rfl)) E
theorem ds_lload_n {k : Fin 4} {x : Int64} (hc : iv_cd mi pc = some (.lload_n k)) (hp : pc + 1 = p) (hl : al[(k : Nat)]? = some (some (.long x))) (E : dE z mi d p al (.long x :: r) S v T) : dE z mi d pc al r S v T := by
  subst hp
  exact dx_p hc rfl (fun _ => rfl) (fun _ => (by show iv_lj al (k : Nat) _ = _; unfold iv_lj; rw [hl]; rfl)) E
theorem ds_lload {k : Nat} {x : Int64} (hc : iv_cd mi pc = some (.lload k)) (hp : pc + 2 = p) (hl : al[(k : Nat)]? = some (some (.long x))) (E : dE z mi d p al (.long x :: r) S v T) : dE z mi d pc al r S v T := by
  subst hp
  exact dx_p hc rfl (fun _ => rfl) (fun _ => (by show iv_lj al (k : Nat) _ = _; unfold iv_lj; rw [hl]; rfl)) E
theorem ds_aload_n {k : Fin 4} {x : Nat} (hc : iv_cd mi pc = some (.aload_n k)) (hp : pc + 1 = p) (hl : al[(k : Nat)]? = some (some (.ref x))) (E : dE z mi d p al (.ref x :: r) S v T) : dE z mi d pc al r S v T := by
  subst hp
  exact dx_p hc rfl (fun _ => rfl) (fun _ => (by show iv_la al (k : Nat) (fun x => some (pc + 1, al, x :: r, (none : iv_F))) = _; unfold iv_la; rw [hl])) E
theorem ds_aload_n_a {k : Fin 4} {x : Nat} (hc : iv_cd mi pc = some (.aload_n k)) (hp : pc + 1 = p) (hl : al[(k : Nat)]? = some (some (.retAddr x))) (E : dE z mi d p al (.retAddr x :: r) S v T) : dE z mi d pc al r S v T := by
  subst hp
  exact dx_p hc rfl (fun _ => rfl) (fun _ => (by show iv_la al (k : Nat) (fun x => some (pc + 1, al, x :: r, (none : iv_F))) = _; unfold iv_la; rw [hl])) E
theorem ds_aload {k : Nat} {x : Nat} (hc : iv_cd mi pc = some (.aload k)) (hp : pc + 2 = p) (hl : al[(k : Nat)]? = some (some (.ref x))) (E : dE z mi d p al (.ref x :: r) S v T) : dE z mi d pc al r S v T := by
  subst hp
  exact dx_p hc rfl (fun _ => rfl) (fun _ => (by show iv_la al (k : Nat) (fun x => some (pc + 2, al, x :: r, (none : iv_F))) = _; unfold iv_la; rw [hl])) E
theorem ds_aload_a {k : Nat} {x : Nat} (hc : iv_cd mi pc = some (.aload k)) (hp : pc + 2 = p) (hl : al[(k : Nat)]? = some (some (.retAddr x))) (E : dE z mi d p al (.retAddr x :: r) S v T) : dE z mi d pc al r S v T := by
  subst hp
  exact dx_p hc rfl (fun _ => rfl) (fun _ => (by show iv_la al (k : Nat) (fun x => some (pc + 2, al, x :: r, (none : iv_F))) = _; unfold iv_la; rw [hl])) E
theorem ds_istore_n {k : Fin 4} {x : Int32} {M : Nat} (hc : iv_cd mi pc = some (.istore_n k)) (hp : pc + 1 = p) (hm : iv_mx mi = M) (hk : Nat.ble ((k : Nat) + 1) M = true) (ha : fx_s1 al (k : Nat) (.int x) = al') (E : dE z mi d p al' r S v T) : dE z mi d pc al (.int x :: r) S v T := by
  subst hp ha
  refine dx_p hc rfl (fun _ => rfl) (fun _ => ?_) E
  show iv_sl mi (k : Nat) 0 _ = _
  unfold iv_sl
  rw [hm, if_pos (show (k : Nat) + 0 < M from Nat.le_of_ble_eq_true hk), fx_s1_s]
theorem ds_istore {k : Nat} {x : Int32} {M : Nat} (hc : iv_cd mi pc = some (.istore k)) (hp : pc + 2 = p) (hm : iv_mx mi = M) (hk : Nat.ble ((k : Nat) + 1) M = true) (ha : fx_s1 al (k : Nat) (.int x) = al') (E : dE z mi d p al' r S v T) : dE z mi d pc al (.int x :: r) S v T := by
  subst hp ha
  refine dx_p hc rfl (fun _ => rfl) (fun _ => ?_) E
  show iv_sl mi (k : Nat) 0 _ = _
  unfold iv_sl
  rw [hm, if_pos (show (k : Nat) + 0 < M from Nat.le_of_ble_eq_true hk), fx_s1_s]
theorem ds_lstore_n {k : Fin 4} {x : Int64} {M : Nat} (hc : iv_cd mi pc = some (.lstore_n k)) (hp : pc + 1 = p) (hm : iv_mx mi = M) (hk : Nat.ble ((k : Nat) + 2) M = true) (ha : fx_s2 al (k : Nat) (.long x) = al') (E : dE z mi d p al' r S v T) : dE z mi d pc al (.long x :: r) S v T := by
  subst hp ha
  refine dx_p hc rfl (fun _ => rfl) (fun _ => ?_) E
  show iv_sl mi (k : Nat) 1 _ = _
  unfold iv_sl
  rw [hm, if_pos (show (k : Nat) + 1 < M from Nat.le_of_ble_eq_true hk), fx_s2_s]
theorem ds_lstore {k : Nat} {x : Int64} {M : Nat} (hc : iv_cd mi pc = some (.lstore k)) (hp : pc + 2 = p) (hm : iv_mx mi = M) (hk : Nat.ble ((k : Nat) + 2) M = true) (ha : fx_s2 al (k : Nat) (.long x) = al') (E : dE z mi d p al' r S v T) : dE z mi d pc al (.long x :: r) S v T := by
  subst hp ha
  refine dx_p hc rfl (fun _ => rfl) (fun _ => ?_) E
  show iv_sl mi (k : Nat) 1 _ = _
  unfold iv_sl
  rw [hm, if_pos (show (k : Nat) + 1 < M from Nat.le_of_ble_eq_true hk), fx_s2_s]
theorem ds_astore_n {k : Fin 4} {x : Nat} {M : Nat} (hc : iv_cd mi pc = some (.astore_n k)) (hp : pc + 1 = p) (hm : iv_mx mi = M) (hk : Nat.ble ((k : Nat) + 1) M = true) (ha : fx_s1 al (k : Nat) (.ref x) = al') (E : dE z mi d p al' r S v T) : dE z mi d pc al (.ref x :: r) S v T := by
  subst hp ha
  refine dx_p hc rfl (fun _ => rfl) (fun _ => ?_) E
  show iv_sl mi (k : Nat) 0 _ = _
  unfold iv_sl
  rw [hm, if_pos (show (k : Nat) + 0 < M from Nat.le_of_ble_eq_true hk), fx_s1_s]
theorem ds_astore {k : Nat} {x : Nat} {M : Nat} (hc : iv_cd mi pc = some (.astore k)) (hp : pc + 2 = p) (hm : iv_mx mi = M) (hk : Nat.ble ((k : Nat) + 1) M = true) (ha : fx_s1 al (k : Nat) (.ref x) = al') (E : dE z mi d p al' r S v T) : dE z mi d pc al (.ref x :: r) S v T := by
  subst hp ha
  refine dx_p hc rfl (fun _ => rfl) (fun _ => ?_) E
  show iv_sl mi (k : Nat) 0 _ = _
  unfold iv_sl
  rw [hm, if_pos (show (k : Nat) + 0 < M from Nat.le_of_ble_eq_true hk), fx_s1_s]
theorem ds_iinc {k M : Nat} {n : Int} {x c : Int32} (hc : iv_cd mi pc = some (.iinc k n)) (hp : pc + 3 = p) (hx : Int32.ofInt n = c) (hm : iv_mx mi = M) (hk : Nat.ble (k + 1) M = true) (hl : al[k]? = some (some (.int x))) {y : Int32} (hv : x + c = y) (ha : fx_s1 al k (.int y) = al') (E : dE z mi d p al' r S v T) : dE z mi d pc al r S v T := by
  subst hv
  subst hp ha hx
  refine dx_p hc rfl (fun _ => rfl) (fun _ => ?_) E
  show iv_li al k _ = _
  unfold iv_li
  rw [hl]
  show iv_sl mi k 0 _ = _
  unfold iv_sl
  rw [hm, if_pos (show k + 0 < M from Nat.le_of_ble_eq_true hk), fx_s1_s]
theorem ds_iadd {x y : Int32} (hc : iv_cd mi pc = some (.iadd)) (hp : pc + 1 = p)  {c : Int32} (hv : (x + y) = c) (E : dE z mi d p al (.int c :: r) S v T) : dE z mi d pc al (.int y :: .int x :: r) S v T := by
  subst hp hv
  exact dx_p hc rfl (fun _ => rfl) (fun _ => rfl) E
theorem ds_isub {x y : Int32} (hc : iv_cd mi pc = some (.isub)) (hp : pc + 1 = p)  {c : Int32} (hv : (x - y) = c) (E : dE z mi d p al (.int c :: r) S v T) : dE z mi d pc al (.int y :: .int x :: r) S v T := by
  subst hp hv
  exact dx_p hc rfl (fun _ => rfl) (fun _ => rfl) E
theorem ds_imul {x y : Int32} (hc : iv_cd mi pc = some (.imul)) (hp : pc + 1 = p)  {c : Int32} (hv : (x * y) = c) (E : dE z mi d p al (.int c :: r) S v T) : dE z mi d pc al (.int y :: .int x :: r) S v T := by
  subst hp hv
  exact dx_p hc rfl (fun _ => rfl) (fun _ => rfl) E
theorem ds_iand {x y : Int32} (hc : iv_cd mi pc = some (.iand)) (hp : pc + 1 = p)  {c : Int32} (hv : (x &&& y) = c) (E : dE z mi d p al (.int c :: r) S v T) : dE z mi d pc al (.int y :: .int x :: r) S v T := by
  subst hp hv
  exact dx_p hc rfl (fun _ => rfl) (fun _ => rfl) E
theorem ds_ior {x y : Int32} (hc : iv_cd mi pc = some (.ior)) (hp : pc + 1 = p)  {c : Int32} (hv : (x ||| y) = c) (E : dE z mi d p al (.int c :: r) S v T) : dE z mi d pc al (.int y :: .int x :: r) S v T := by
  subst hp hv
  exact dx_p hc rfl (fun _ => rfl) (fun _ => rfl) E
theorem ds_ixor {x y : Int32} (hc : iv_cd mi pc = some (.ixor)) (hp : pc + 1 = p)  {c : Int32} (hv : (x ^^^ y) = c) (E : dE z mi d p al (.int c :: r) S v T) : dE z mi d pc al (.int y :: .int x :: r) S v T := by
  subst hp hv
  exact dx_p hc rfl (fun _ => rfl) (fun _ => rfl) E
theorem ds_ishl {x y : Int32} (hc : iv_cd mi pc = some (.ishl)) (hp : pc + 1 = p)  {c : Int32} (hv : (x <<< (y &&& 31)) = c) (E : dE z mi d p al (.int c :: r) S v T) : dE z mi d pc al (.int y :: .int x :: r) S v T := by
  subst hp hv
  exact dx_p hc rfl (fun _ => rfl) (fun _ => rfl) E
theorem ds_ishr {x y : Int32} (hc : iv_cd mi pc = some (.ishr)) (hp : pc + 1 = p)  {c : Int32} (hv : (x >>> (y &&& 31)) = c) (E : dE z mi d p al (.int c :: r) S v T) : dE z mi d pc al (.int y :: .int x :: r) S v T := by
  subst hp hv
  exact dx_p hc rfl (fun _ => rfl) (fun _ => rfl) E
theorem ds_iushr {x y : Int32} (hc : iv_cd mi pc = some (.iushr)) (hp : pc + 1 = p)  {c : Int32} (hv : ((x.toUInt32 >>> (y.toUInt32 &&& Int32.toUInt32 31)).toInt32) = c) (E : dE z mi d p al (.int c :: r) S v T) : dE z mi d pc al (.int y :: .int x :: r) S v T := by
  subst hp hv
  exact dx_p hc rfl (fun _ => rfl) (fun _ => rfl) E
theorem ds_ladd {x y : Int64} (hc : iv_cd mi pc = some (.ladd)) (hp : pc + 1 = p)  {c : Int64} (hv : (x + y) = c) (E : dE z mi d p al (.long c :: r) S v T) : dE z mi d pc al (.long y :: .long x :: r) S v T := by
  subst hp hv
  exact dx_p hc rfl (fun _ => rfl) (fun _ => rfl) E
theorem ds_lsub {x y : Int64} (hc : iv_cd mi pc = some (.lsub)) (hp : pc + 1 = p)  {c : Int64} (hv : (x - y) = c) (E : dE z mi d p al (.long c :: r) S v T) : dE z mi d pc al (.long y :: .long x :: r) S v T := by
  subst hp hv
  exact dx_p hc rfl (fun _ => rfl) (fun _ => rfl) E
theorem ds_lmul {x y : Int64} (hc : iv_cd mi pc = some (.lmul)) (hp : pc + 1 = p)  {c : Int64} (hv : (x * y) = c) (E : dE z mi d p al (.long c :: r) S v T) : dE z mi d pc al (.long y :: .long x :: r) S v T := by
  subst hp hv
  exact dx_p hc rfl (fun _ => rfl) (fun _ => rfl) E
theorem ds_land {x y : Int64} (hc : iv_cd mi pc = some (.land)) (hp : pc + 1 = p)  {c : Int64} (hv : (x &&& y) = c) (E : dE z mi d p al (.long c :: r) S v T) : dE z mi d pc al (.long y :: .long x :: r) S v T := by
  subst hp hv
  exact dx_p hc rfl (fun _ => rfl) (fun _ => rfl) E
theorem ds_lor {x y : Int64} (hc : iv_cd mi pc = some (.lor)) (hp : pc + 1 = p)  {c : Int64} (hv : (x ||| y) = c) (E : dE z mi d p al (.long c :: r) S v T) : dE z mi d pc al (.long y :: .long x :: r) S v T := by
  subst hp hv
  exact dx_p hc rfl (fun _ => rfl) (fun _ => rfl) E
theorem ds_lxor {x y : Int64} (hc : iv_cd mi pc = some (.lxor)) (hp : pc + 1 = p)  {c : Int64} (hv : (x ^^^ y) = c) (E : dE z mi d p al (.long c :: r) S v T) : dE z mi d pc al (.long y :: .long x :: r) S v T := by
  subst hp hv
  exact dx_p hc rfl (fun _ => rfl) (fun _ => rfl) E
theorem ds_idiv {x y : Int32} (hc : iv_cd mi pc = some (.idiv)) (hp : pc + 1 = p) (hy : ¬ y = 0) {c : Int32} (hv : (x / y) = c) (E : dE z mi d p al (.int c :: r) S v T) : dE z mi d pc al (.int y :: .int x :: r) S v T := by
  subst hp hv
  exact dx_p hc rfl (fun _ => rfl) (fun _ => (by show (if y = 0 then none else _) = _; rw [if_neg hy]; rfl)) E
theorem ds_irem {x y : Int32} (hc : iv_cd mi pc = some (.irem)) (hp : pc + 1 = p) (hy : ¬ y = 0) {c : Int32} (hv : (x - x / y * y) = c) (E : dE z mi d p al (.int c :: r) S v T) : dE z mi d pc al (.int y :: .int x :: r) S v T := by
  subst hp hv
  exact dx_p hc rfl (fun _ => rfl) (fun _ => (by show (if y = 0 then none else _) = _; rw [if_neg hy]; rfl)) E
theorem ds_ldiv {x y : Int64} (hc : iv_cd mi pc = some (.ldiv)) (hp : pc + 1 = p) (hy : ¬ y = 0) {c : Int64} (hv : (x / y) = c) (E : dE z mi d p al (.long c :: r) S v T) : dE z mi d pc al (.long y :: .long x :: r) S v T := by
  subst hp hv
  exact dx_p hc rfl (fun _ => rfl) (fun _ => (by show (if y = 0 then none else _) = _; rw [if_neg hy]; rfl)) E
theorem ds_lrem {x y : Int64} (hc : iv_cd mi pc = some (.lrem)) (hp : pc + 1 = p) (hy : ¬ y = 0) {c : Int64} (hv : (x - x / y * y) = c) (E : dE z mi d p al (.long c :: r) S v T) : dE z mi d pc al (.long y :: .long x :: r) S v T := by
  subst hp hv
  exact dx_p hc rfl (fun _ => rfl) (fun _ => (by show (if y = 0 then none else _) = _; rw [if_neg hy]; rfl)) E
theorem ds_lshl {x : Int64} {y : Int32} (hc : iv_cd mi pc = some (.lshl)) (hp : pc + 1 = p)  {c : Int64} (hv : (x <<< (y.toInt64 &&& 63)) = c) (E : dE z mi d p al (.long c :: r) S v T) : dE z mi d pc al (.int y :: .long x :: r) S v T := by
  subst hp hv
  exact dx_p hc rfl (fun _ => rfl) (fun _ => rfl) E
theorem ds_lshr {x : Int64} {y : Int32} (hc : iv_cd mi pc = some (.lshr)) (hp : pc + 1 = p)  {c : Int64} (hv : (x >>> (y.toInt64 &&& 63)) = c) (E : dE z mi d p al (.long c :: r) S v T) : dE z mi d pc al (.int y :: .long x :: r) S v T := by
  subst hp hv
  exact dx_p hc rfl (fun _ => rfl) (fun _ => rfl) E
theorem ds_pop2 {x : Value} (hc : iv_cd mi pc = some (.pop2)) (hp : pc + 1 = p) (hx : x.category = 2) (E : dE z mi d p al (r) S v T) : dE z mi d pc al (x :: r) S v T := by
  subst hp
  exact dx_p hc rfl (fun _ => rfl) (fun _ => (by show (if x.category = 2 then _ else none) = _; rw [if_pos hx])) E
theorem ds_ineg {x : Int32} (hc : iv_cd mi pc = some (.ineg)) (hp : pc + 1 = p)  {c : Int32} (hv : (-x) = c) (E : dE z mi d p al (.int c :: r) S v T) : dE z mi d pc al (.int x :: r) S v T := by
  subst hp hv
  exact dx_p hc rfl (fun _ => rfl) (fun _ => rfl) E
theorem ds_lneg {x : Int64} (hc : iv_cd mi pc = some (.lneg)) (hp : pc + 1 = p)  {c : Int64} (hv : (-x) = c) (E : dE z mi d p al (.long c :: r) S v T) : dE z mi d pc al (.long x :: r) S v T := by
  subst hp hv
  exact dx_p hc rfl (fun _ => rfl) (fun _ => rfl) E
theorem ds_i2l {x : Int32} (hc : iv_cd mi pc = some (.i2l)) (hp : pc + 1 = p)  {c : Int64} (hv : x.toInt64 = c) (E : dE z mi d p al (.long c :: r) S v T) : dE z mi d pc al (.int x :: r) S v T := by
  subst hp hv
  exact dx_p hc rfl (fun _ => rfl) (fun _ => rfl) E
theorem ds_l2i {x : Int64} (hc : iv_cd mi pc = some (.l2i)) (hp : pc + 1 = p)  {c : Int32} (hv : x.toInt32 = c) (E : dE z mi d p al (.int c :: r) S v T) : dE z mi d pc al (.long x :: r) S v T := by
  subst hp hv
  exact dx_p hc rfl (fun _ => rfl) (fun _ => rfl) E
theorem ds_i2b {x : Int32} (hc : iv_cd mi pc = some (.i2b)) (hp : pc + 1 = p)  {c : Int32} (hv : x.toInt8.toInt32 = c) (E : dE z mi d p al (.int c :: r) S v T) : dE z mi d pc al (.int x :: r) S v T := by
  subst hp hv
  exact dx_p hc rfl (fun _ => rfl) (fun _ => rfl) E
theorem ds_lcmp {x y : Int64} (hc : iv_cd mi pc = some (.lcmp)) (hp : pc + 1 = p)  (E : dE z mi d p al (.int (lg_cmp x y) :: r) S v T) : dE z mi d pc al (.long y :: .long x :: r) S v T := by
  subst hp
  exact dx_p hc rfl (fun _ => rfl) (fun _ => rfl) E
theorem ds_dup {x : Value} (hc : iv_cd mi pc = some (.dup)) (hp : pc + 1 = p) (hx : x.category = 1) (E : dE z mi d p al (x :: x :: r) S v T) : dE z mi d pc al (x :: r) S v T := by
  subst hp
  exact dx_p hc rfl (fun _ => rfl) (fun _ => (by show (if x.category = 1 then _ else none) = _; rw [if_pos hx])) E
theorem ds_pop {x : Value} (hc : iv_cd mi pc = some (.pop)) (hp : pc + 1 = p) (hx : x.category = 1) (E : dE z mi d p al (r) S v T) : dE z mi d pc al (x :: r) S v T := by
  subst hp
  exact dx_p hc rfl (fun _ => rfl) (fun _ => (by show (if x.category = 1 then _ else none) = _; rw [if_pos hx])) E
theorem ds_dup_x1 {x y : Value} (hc : iv_cd mi pc = some (.dup_x1)) (hp : pc + 1 = p) (hx : x.category = 1) (hy : y.category = 1) (E : dE z mi d p al (x :: y :: x :: r) S v T) : dE z mi d pc al (x :: y :: r) S v T := by
  subst hp
  exact dx_p hc rfl (fun _ => rfl) (fun _ => (by show (if x.category = 1 then (if y.category = 1 then _ else none) else none) = _; rw [if_pos hx, if_pos hy])) E
theorem ds_dup2 {x y : Value} (hc : iv_cd mi pc = some (.dup2)) (hp : pc + 1 = p) (hx : x.category = 1) (hy : y.category = 1) (E : dE z mi d p al (x :: y :: x :: y :: r) S v T) : dE z mi d pc al (x :: y :: r) S v T := by
  subst hp
  exact dx_p hc rfl (fun _ => rfl) (fun _ => (by show (if x.category = 2 then _ else (if x.category = 1 then (if y.category = 1 then _ else none) else none)) = _; rw [if_neg (by rw [hx]; decide), if_pos hx, if_pos hy])) E
theorem ds_dup_x2 {x y q : Value} (hc : iv_cd mi pc = some (.dup_x2)) (hp : pc + 1 = p) (hx : x.category = 1) (hy : y.category = 1) (hq : q.category = 1) (E : dE z mi d p al (x :: y :: q :: x :: r) S v T) : dE z mi d pc al (x :: y :: q :: r) S v T := by
  subst hp
  exact dx_p hc rfl (fun _ => rfl) (fun _ => (by show (if x.category = 1 then (if y.category = 1 then (if q.category = 1 then _ else none) else none) else none) = _; rw [if_pos hx, if_pos hy, if_pos hq])) E
theorem ds_goto {off : Int} (hc : iv_cd mi pc = some (.goto off)) (hp : iv_tg pc off = some p) (E : dE z mi d p al r S v T) : dE z mi d pc al r S v T :=
  dx_p hc rfl (fun _ => rfl) (fun _ => (by show (iv_tg pc off).bind _ = _; rw [hp]; rfl)) E
theorem ds_icmp_eq_t {off : Int} {t : Nat} {x y : Int32} (hc : iv_cd mi pc = some (.if_icmp .eq off)) (ht : iv_tg pc off = some t) (c : x = y) (E : dE z mi d t al r S v T) : dE z mi d pc al (.int y :: .int x :: r) S v T :=
  dx_p hc rfl (fun _ => rfl) (fun _ => (by show iv_br (decide (x = y)) pc off al r = _; unfold iv_br; rw [ht, decide_eq_true c]; rfl)) E
theorem ds_icmp_eq_f {off : Int} {t : Nat} {x y : Int32} (hc : iv_cd mi pc = some (.if_icmp .eq off)) (ht : iv_tg pc off = some t) (hp : pc + 3 = p) (c : ¬ (x = y)) (E : dE z mi d p al r S v T) : dE z mi d pc al (.int y :: .int x :: r) S v T := by
  subst hp
  exact dx_p hc rfl (fun _ => rfl) (fun _ => (by show iv_br (decide (x = y)) pc off al r = _; unfold iv_br; rw [ht, decide_eq_false c]; rfl)) E
theorem ds_if_eq_t {off : Int} {t : Nat} {x : Int32} (hc : iv_cd mi pc = some (.ifCond .eq off)) (ht : iv_tg pc off = some t) (c : x = 0) (E : dE z mi d t al r S v T) : dE z mi d pc al (.int x :: r) S v T :=
  dx_p hc rfl (fun _ => rfl) (fun _ => (by show iv_br (decide (x = 0)) pc off al r = _; unfold iv_br; rw [ht, decide_eq_true c]; rfl)) E
theorem ds_if_eq_f {off : Int} {t : Nat} {x : Int32} (hc : iv_cd mi pc = some (.ifCond .eq off)) (ht : iv_tg pc off = some t) (hp : pc + 3 = p) (c : ¬ (x = 0)) (E : dE z mi d p al r S v T) : dE z mi d pc al (.int x :: r) S v T := by
  subst hp
  exact dx_p hc rfl (fun _ => rfl) (fun _ => (by show iv_br (decide (x = 0)) pc off al r = _; unfold iv_br; rw [ht, decide_eq_false c]; rfl)) E
theorem ds_icmp_ne_t {off : Int} {t : Nat} {x y : Int32} (hc : iv_cd mi pc = some (.if_icmp .ne off)) (ht : iv_tg pc off = some t) (c : ¬ x = y) (E : dE z mi d t al r S v T) : dE z mi d pc al (.int y :: .int x :: r) S v T :=
  dx_p hc rfl (fun _ => rfl) (fun _ => (by show iv_br (decide (¬ x = y)) pc off al r = _; unfold iv_br; rw [ht, decide_eq_true c]; rfl)) E
theorem ds_icmp_ne_f {off : Int} {t : Nat} {x y : Int32} (hc : iv_cd mi pc = some (.if_icmp .ne off)) (ht : iv_tg pc off = some t) (hp : pc + 3 = p) (c : ¬ (¬ x = y)) (E : dE z mi d p al r S v T) : dE z mi d pc al (.int y :: .int x :: r) S v T := by
  subst hp
  exact dx_p hc rfl (fun _ => rfl) (fun _ => (by show iv_br (decide (¬ x = y)) pc off al r = _; unfold iv_br; rw [ht, decide_eq_false c]; rfl)) E
theorem ds_if_ne_t {off : Int} {t : Nat} {x : Int32} (hc : iv_cd mi pc = some (.ifCond .ne off)) (ht : iv_tg pc off = some t) (c : ¬ x = 0) (E : dE z mi d t al r S v T) : dE z mi d pc al (.int x :: r) S v T :=
  dx_p hc rfl (fun _ => rfl) (fun _ => (by show iv_br (decide (¬ x = 0)) pc off al r = _; unfold iv_br; rw [ht, decide_eq_true c]; rfl)) E
theorem ds_if_ne_f {off : Int} {t : Nat} {x : Int32} (hc : iv_cd mi pc = some (.ifCond .ne off)) (ht : iv_tg pc off = some t) (hp : pc + 3 = p) (c : ¬ (¬ x = 0)) (E : dE z mi d p al r S v T) : dE z mi d pc al (.int x :: r) S v T := by
  subst hp
  exact dx_p hc rfl (fun _ => rfl) (fun _ => (by show iv_br (decide (¬ x = 0)) pc off al r = _; unfold iv_br; rw [ht, decide_eq_false c]; rfl)) E
theorem ds_icmp_lt_t {off : Int} {t : Nat} {x y : Int32} (hc : iv_cd mi pc = some (.if_icmp .lt off)) (ht : iv_tg pc off = some t) (c : x < y) (E : dE z mi d t al r S v T) : dE z mi d pc al (.int y :: .int x :: r) S v T :=
  dx_p hc rfl (fun _ => rfl) (fun _ => (by show iv_br (decide (x < y)) pc off al r = _; unfold iv_br; rw [ht, decide_eq_true c]; rfl)) E
theorem ds_icmp_lt_f {off : Int} {t : Nat} {x y : Int32} (hc : iv_cd mi pc = some (.if_icmp .lt off)) (ht : iv_tg pc off = some t) (hp : pc + 3 = p) (c : ¬ (x < y)) (E : dE z mi d p al r S v T) : dE z mi d pc al (.int y :: .int x :: r) S v T := by
  subst hp
  exact dx_p hc rfl (fun _ => rfl) (fun _ => (by show iv_br (decide (x < y)) pc off al r = _; unfold iv_br; rw [ht, decide_eq_false c]; rfl)) E
theorem ds_if_lt_t {off : Int} {t : Nat} {x : Int32} (hc : iv_cd mi pc = some (.ifCond .lt off)) (ht : iv_tg pc off = some t) (c : x < 0) (E : dE z mi d t al r S v T) : dE z mi d pc al (.int x :: r) S v T :=
  dx_p hc rfl (fun _ => rfl) (fun _ => (by show iv_br (decide (x < 0)) pc off al r = _; unfold iv_br; rw [ht, decide_eq_true c]; rfl)) E
theorem ds_if_lt_f {off : Int} {t : Nat} {x : Int32} (hc : iv_cd mi pc = some (.ifCond .lt off)) (ht : iv_tg pc off = some t) (hp : pc + 3 = p) (c : ¬ (x < 0)) (E : dE z mi d p al r S v T) : dE z mi d pc al (.int x :: r) S v T := by
  subst hp
  exact dx_p hc rfl (fun _ => rfl) (fun _ => (by show iv_br (decide (x < 0)) pc off al r = _; unfold iv_br; rw [ht, decide_eq_false c]; rfl)) E
theorem ds_icmp_ge_t {off : Int} {t : Nat} {x y : Int32} (hc : iv_cd mi pc = some (.if_icmp .ge off)) (ht : iv_tg pc off = some t) (c : y ≤ x) (E : dE z mi d t al r S v T) : dE z mi d pc al (.int y :: .int x :: r) S v T :=
  dx_p hc rfl (fun _ => rfl) (fun _ => (by show iv_br (decide (y ≤ x)) pc off al r = _; unfold iv_br; rw [ht, decide_eq_true c]; rfl)) E
theorem ds_icmp_ge_f {off : Int} {t : Nat} {x y : Int32} (hc : iv_cd mi pc = some (.if_icmp .ge off)) (ht : iv_tg pc off = some t) (hp : pc + 3 = p) (c : ¬ (y ≤ x)) (E : dE z mi d p al r S v T) : dE z mi d pc al (.int y :: .int x :: r) S v T := by
  subst hp
  exact dx_p hc rfl (fun _ => rfl) (fun _ => (by show iv_br (decide (y ≤ x)) pc off al r = _; unfold iv_br; rw [ht, decide_eq_false c]; rfl)) E
theorem ds_if_ge_t {off : Int} {t : Nat} {x : Int32} (hc : iv_cd mi pc = some (.ifCond .ge off)) (ht : iv_tg pc off = some t) (c : 0 ≤ x) (E : dE z mi d t al r S v T) : dE z mi d pc al (.int x :: r) S v T :=
  dx_p hc rfl (fun _ => rfl) (fun _ => (by show iv_br (decide (0 ≤ x)) pc off al r = _; unfold iv_br; rw [ht, decide_eq_true c]; rfl)) E
theorem ds_if_ge_f {off : Int} {t : Nat} {x : Int32} (hc : iv_cd mi pc = some (.ifCond .ge off)) (ht : iv_tg pc off = some t) (hp : pc + 3 = p) (c : ¬ (0 ≤ x)) (E : dE z mi d p al r S v T) : dE z mi d pc al (.int x :: r) S v T := by
  subst hp
  exact dx_p hc rfl (fun _ => rfl) (fun _ => (by show iv_br (decide (0 ≤ x)) pc off al r = _; unfold iv_br; rw [ht, decide_eq_false c]; rfl)) E
theorem ds_icmp_gt_t {off : Int} {t : Nat} {x y : Int32} (hc : iv_cd mi pc = some (.if_icmp .gt off)) (ht : iv_tg pc off = some t) (c : y < x) (E : dE z mi d t al r S v T) : dE z mi d pc al (.int y :: .int x :: r) S v T :=
  dx_p hc rfl (fun _ => rfl) (fun _ => (by show iv_br (decide (y < x)) pc off al r = _; unfold iv_br; rw [ht, decide_eq_true c]; rfl)) E
theorem ds_icmp_gt_f {off : Int} {t : Nat} {x y : Int32} (hc : iv_cd mi pc = some (.if_icmp .gt off)) (ht : iv_tg pc off = some t) (hp : pc + 3 = p) (c : ¬ (y < x)) (E : dE z mi d p al r S v T) : dE z mi d pc al (.int y :: .int x :: r) S v T := by
  subst hp
  exact dx_p hc rfl (fun _ => rfl) (fun _ => (by show iv_br (decide (y < x)) pc off al r = _; unfold iv_br; rw [ht, decide_eq_false c]; rfl)) E
theorem ds_if_gt_t {off : Int} {t : Nat} {x : Int32} (hc : iv_cd mi pc = some (.ifCond .gt off)) (ht : iv_tg pc off = some t) (c : 0 < x) (E : dE z mi d t al r S v T) : dE z mi d pc al (.int x :: r) S v T :=
  dx_p hc rfl (fun _ => rfl) (fun _ => (by show iv_br (decide (0 < x)) pc off al r = _; unfold iv_br; rw [ht, decide_eq_true c]; rfl)) E
theorem ds_if_gt_f {off : Int} {t : Nat} {x : Int32} (hc : iv_cd mi pc = some (.ifCond .gt off)) (ht : iv_tg pc off = some t) (hp : pc + 3 = p) (c : ¬ (0 < x)) (E : dE z mi d p al r S v T) : dE z mi d pc al (.int x :: r) S v T := by
  subst hp
  exact dx_p hc rfl (fun _ => rfl) (fun _ => (by show iv_br (decide (0 < x)) pc off al r = _; unfold iv_br; rw [ht, decide_eq_false c]; rfl)) E
theorem ds_icmp_le_t {off : Int} {t : Nat} {x y : Int32} (hc : iv_cd mi pc = some (.if_icmp .le off)) (ht : iv_tg pc off = some t) (c : x ≤ y) (E : dE z mi d t al r S v T) : dE z mi d pc al (.int y :: .int x :: r) S v T :=
  dx_p hc rfl (fun _ => rfl) (fun _ => (by show iv_br (decide (x ≤ y)) pc off al r = _; unfold iv_br; rw [ht, decide_eq_true c]; rfl)) E
theorem ds_icmp_le_f {off : Int} {t : Nat} {x y : Int32} (hc : iv_cd mi pc = some (.if_icmp .le off)) (ht : iv_tg pc off = some t) (hp : pc + 3 = p) (c : ¬ (x ≤ y)) (E : dE z mi d p al r S v T) : dE z mi d pc al (.int y :: .int x :: r) S v T := by
  subst hp
  exact dx_p hc rfl (fun _ => rfl) (fun _ => (by show iv_br (decide (x ≤ y)) pc off al r = _; unfold iv_br; rw [ht, decide_eq_false c]; rfl)) E
theorem ds_if_le_t {off : Int} {t : Nat} {x : Int32} (hc : iv_cd mi pc = some (.ifCond .le off)) (ht : iv_tg pc off = some t) (c : x ≤ 0) (E : dE z mi d t al r S v T) : dE z mi d pc al (.int x :: r) S v T :=
  dx_p hc rfl (fun _ => rfl) (fun _ => (by show iv_br (decide (x ≤ 0)) pc off al r = _; unfold iv_br; rw [ht, decide_eq_true c]; rfl)) E
theorem ds_if_le_f {off : Int} {t : Nat} {x : Int32} (hc : iv_cd mi pc = some (.ifCond .le off)) (ht : iv_tg pc off = some t) (hp : pc + 3 = p) (c : ¬ (x ≤ 0)) (E : dE z mi d p al r S v T) : dE z mi d pc al (.int x :: r) S v T := by
  subst hp
  exact dx_p hc rfl (fun _ => rfl) (fun _ => (by show iv_br (decide (x ≤ 0)) pc off al r = _; unfold iv_br; rw [ht, decide_eq_false c]; rfl)) E
theorem ds_tsw_h {dflt lo hi : Int} {offs : Array Int} {x : Int32} {j t : Nat} (hc : iv_cd mi pc = some (.tableswitch dflt lo hi offs)) (ht : (offs[j]?).bind (iv_tg pc) = some t) (hb : (decide (lo ≤ lo + (j : Int)) && decide (lo + (j : Int) ≤ hi) && decide (-2147483648 ≤ lo) && decide (hi ≤ 2147483647)) = true) (hx : x = Int32.ofInt (lo + (j : Int))) (E : dE z mi d t al r S v T) : dE z mi d pc al (.int x :: r) S v T := by
  simp only [Bool.and_eq_true, decide_eq_true_eq] at hb
  obtain ⟨⟨⟨b1, b2⟩, b3⟩, b4⟩ := hb
  have e : x.toInt = lo + (j : Int) := by
    rw [hx]
    exact Int32.toInt_ofInt_of_le (by omega) (by omega)
  refine dx_p hc rfl (fun _ => rfl) (fun _ => ?_) E
  show (if x.toInt < lo ∨ hi < x.toInt then iv_jp pc dflt al r else (offs[(x.toInt - lo).toNat]?).bind fun off => iv_jp pc off al r) = _
  rw [if_neg (by omega), e, show (lo + (j : Int) - lo).toNat = j by omega]
  obtain ⟨off, o1, o2⟩ := Option.bind_eq_some_iff.mp ht
  rw [o1]
  show (iv_tg pc off).bind _ = _
  rw [o2]
  rfl
theorem ds_tsw_d {dflt lo hi : Int} {offs : Array Int} {x : Int32} {t : Nat} (hc : iv_cd mi pc = some (.tableswitch dflt lo hi offs)) (ht : iv_tg pc dflt = some t) (hn : hi < lo + offs.size) (hb : (decide (-2147483648 ≤ lo) && decide (hi ≤ 2147483647)) = true) (hx : ∀ j : Nat, j < offs.size → ¬ x = Int32.ofInt (lo + (j : Int))) (E : dE z mi d t al r S v T) : dE z mi d pc al (.int x :: r) S v T := by
  simp only [Bool.and_eq_true, decide_eq_true_eq] at hb
  obtain ⟨b3, b4⟩ := hb
  refine dx_p hc rfl (fun _ => rfl) (fun _ => ?_) E
  show (if x.toInt < lo ∨ hi < x.toInt then iv_jp pc dflt al r else _) = _
  rw [if_pos ?_]
  · show (iv_tg pc dflt).bind _ = _
    rw [ht]
    rfl
  · by_cases q : x.toInt < lo ∨ hi < x.toInt
    · exact q
    · have q1 : lo ≤ x.toInt := by omega
      have q2 : x.toInt ≤ hi := by omega
      refine absurd ?_ (hx (x.toInt - lo).toNat (by omega))
      rw [show lo + ((x.toInt - lo).toNat : Int) = x.toInt by omega]
      first | exact (Int32.ofInt_toInt x).symm | simp
theorem ds_lcmp_eq_t {off : Int} {t : Nat} {x y : Int64} (hc0 : iv_cd mi pc = some .lcmp) (hc : iv_cd mi (pc + 1) = some (.ifCond .eq off)) (ht : iv_tg (pc + 1) off = some t) (c : x = y) (E : dE z mi d t al r S v T) : dE z mi d pc al (.long y :: .long x :: r) S v T :=
  ds_lcmp hc0 rfl (ds_if_eq_t hc ht (((fx_lc x y).1).mpr c) E)
theorem ds_lcmp_eq_f {off : Int} {t : Nat} {x y : Int64} (hc0 : iv_cd mi pc = some .lcmp) (hc : iv_cd mi (pc + 1) = some (.ifCond .eq off)) (ht : iv_tg (pc + 1) off = some t) (hp : pc + 4 = p) (c : ¬ (x = y)) (E : dE z mi d p al r S v T) : dE z mi d pc al (.long y :: .long x :: r) S v T :=
  ds_lcmp hc0 rfl (ds_if_eq_f hc ht (by rw [← hp]) (fun q => c (((fx_lc x y).1).mp q)) E)
theorem ds_lcmp_ne_t {off : Int} {t : Nat} {x y : Int64} (hc0 : iv_cd mi pc = some .lcmp) (hc : iv_cd mi (pc + 1) = some (.ifCond .ne off)) (ht : iv_tg (pc + 1) off = some t) (c : ¬ x = y) (E : dE z mi d t al r S v T) : dE z mi d pc al (.long y :: .long x :: r) S v T :=
  ds_lcmp hc0 rfl (ds_if_ne_t hc ht ((not_congr (fx_lc x y).1).mpr c) E)
theorem ds_lcmp_ne_f {off : Int} {t : Nat} {x y : Int64} (hc0 : iv_cd mi pc = some .lcmp) (hc : iv_cd mi (pc + 1) = some (.ifCond .ne off)) (ht : iv_tg (pc + 1) off = some t) (hp : pc + 4 = p) (c : ¬ (¬ x = y)) (E : dE z mi d p al r S v T) : dE z mi d pc al (.long y :: .long x :: r) S v T :=
  ds_lcmp hc0 rfl (ds_if_ne_f hc ht (by rw [← hp]) (fun q => c ((not_congr (fx_lc x y).1).mp q)) E)
theorem ds_lcmp_lt_t {off : Int} {t : Nat} {x y : Int64} (hc0 : iv_cd mi pc = some .lcmp) (hc : iv_cd mi (pc + 1) = some (.ifCond .lt off)) (ht : iv_tg (pc + 1) off = some t) (c : x < y) (E : dE z mi d t al r S v T) : dE z mi d pc al (.long y :: .long x :: r) S v T :=
  ds_lcmp hc0 rfl (ds_if_lt_t hc ht (((fx_lc x y).2.1).mpr c) E)
theorem ds_lcmp_lt_f {off : Int} {t : Nat} {x y : Int64} (hc0 : iv_cd mi pc = some .lcmp) (hc : iv_cd mi (pc + 1) = some (.ifCond .lt off)) (ht : iv_tg (pc + 1) off = some t) (hp : pc + 4 = p) (c : ¬ (x < y)) (E : dE z mi d p al r S v T) : dE z mi d pc al (.long y :: .long x :: r) S v T :=
  ds_lcmp hc0 rfl (ds_if_lt_f hc ht (by rw [← hp]) (fun q => c (((fx_lc x y).2.1).mp q)) E)
theorem ds_lcmp_ge_t {off : Int} {t : Nat} {x y : Int64} (hc0 : iv_cd mi pc = some .lcmp) (hc : iv_cd mi (pc + 1) = some (.ifCond .ge off)) (ht : iv_tg (pc + 1) off = some t) (c : y ≤ x) (E : dE z mi d t al r S v T) : dE z mi d pc al (.long y :: .long x :: r) S v T :=
  ds_lcmp hc0 rfl (ds_if_ge_t hc ht (((fx_lc x y).2.2.1).mpr c) E)
theorem ds_lcmp_ge_f {off : Int} {t : Nat} {x y : Int64} (hc0 : iv_cd mi pc = some .lcmp) (hc : iv_cd mi (pc + 1) = some (.ifCond .ge off)) (ht : iv_tg (pc + 1) off = some t) (hp : pc + 4 = p) (c : ¬ (y ≤ x)) (E : dE z mi d p al r S v T) : dE z mi d pc al (.long y :: .long x :: r) S v T :=
  ds_lcmp hc0 rfl (ds_if_ge_f hc ht (by rw [← hp]) (fun q => c (((fx_lc x y).2.2.1).mp q)) E)
theorem ds_lcmp_gt_t {off : Int} {t : Nat} {x y : Int64} (hc0 : iv_cd mi pc = some .lcmp) (hc : iv_cd mi (pc + 1) = some (.ifCond .gt off)) (ht : iv_tg (pc + 1) off = some t) (c : y < x) (E : dE z mi d t al r S v T) : dE z mi d pc al (.long y :: .long x :: r) S v T :=
  ds_lcmp hc0 rfl (ds_if_gt_t hc ht (((fx_lc x y).2.2.2.1).mpr c) E)
theorem ds_lcmp_gt_f {off : Int} {t : Nat} {x y : Int64} (hc0 : iv_cd mi pc = some .lcmp) (hc : iv_cd mi (pc + 1) = some (.ifCond .gt off)) (ht : iv_tg (pc + 1) off = some t) (hp : pc + 4 = p) (c : ¬ (y < x)) (E : dE z mi d p al r S v T) : dE z mi d pc al (.long y :: .long x :: r) S v T :=
  ds_lcmp hc0 rfl (ds_if_gt_f hc ht (by rw [← hp]) (fun q => c (((fx_lc x y).2.2.2.1).mp q)) E)
theorem ds_lcmp_le_t {off : Int} {t : Nat} {x y : Int64} (hc0 : iv_cd mi pc = some .lcmp) (hc : iv_cd mi (pc + 1) = some (.ifCond .le off)) (ht : iv_tg (pc + 1) off = some t) (c : x ≤ y) (E : dE z mi d t al r S v T) : dE z mi d pc al (.long y :: .long x :: r) S v T :=
  ds_lcmp hc0 rfl (ds_if_le_t hc ht (((fx_lc x y).2.2.2.2).mpr c) E)
theorem ds_lcmp_le_f {off : Int} {t : Nat} {x y : Int64} (hc0 : iv_cd mi pc = some .lcmp) (hc : iv_cd mi (pc + 1) = some (.ifCond .le off)) (ht : iv_tg (pc + 1) off = some t) (hp : pc + 4 = p) (c : ¬ (x ≤ y)) (E : dE z mi d p al r S v T) : dE z mi d pc al (.long y :: .long x :: r) S v T :=
  ds_lcmp hc0 rfl (ds_if_le_f hc ht (by rw [← hp]) (fun q => c (((fx_lc x y).2.2.2.2).mp q)) E)
theorem ds_min {idx : Nat} {x y : Int32} (hc : iv_cd mi pc = some (.invokestatic idx)) (hp : pc + 3 = p) (hq : (!(iv_cp (iv_kf mi) idx) && iv_mm (iv_kf mi) idx && (iv_mt (iv_kf mi) idx).isNone) = true) (hr : Nat.ble (r.map fun v => v.category).sum 8 = true) {c : Int32} (hv : (if y < x then y else x) = c) (E : dE z mi d p al (.int c :: r) S v T) : dE z mi d pc al (.int y :: .int x :: r) S v T := by
  subst hp hv
  simp only [Bool.and_eq_true, Bool.not_eq_true'] at hq
  obtain ⟨⟨q1, q2⟩, q3⟩ := hq
  have q4 : iv_mt (iv_kf mi) idx = none := Option.isNone_iff_eq_none.mp q3
  refine dx_p hc rfl (fun h => ?_) (fun h => ?_) E
  · unfold iv_ca
    show (match iv_mt (iv_kf mi) idx with
      | none => none
      | some mj => _) = none
    rw [q4]
  · show (if iv_cp (iv_kf mi) idx = true then iv_cpy z pc al _ h else if iv_mm (iv_kf mi) idx = true then iv_min pc al (.int y :: .int x :: r) else _) = _
    rw [if_neg (by rw [q1]; decide), if_pos q2]
    show (if (r.map fun v => v.category).sum ≤ 8 then _ else none) = _
    rw [if_pos (Nat.le_of_ble_eq_true hr)]
    rfl
theorem ds_max {idx : Nat} {x y : Int32} (hc : iv_cd mi pc = some (.invokestatic idx)) (hp : pc + 3 = p) (hq : (!(iv_cp (iv_kf mi) idx) && !(iv_mm (iv_kf mi) idx) && iv_ma (iv_kf mi) idx && (iv_mt (iv_kf mi) idx).isNone) = true) (hr : Nat.ble (r.map fun v => v.category).sum 8 = true) {c : Int32} (hv : (if x < y then y else x) = c) (E : dE z mi d p al (.int c :: r) S v T) : dE z mi d pc al (.int y :: .int x :: r) S v T := by
  subst hp hv
  simp only [Bool.and_eq_true, Bool.not_eq_true'] at hq
  obtain ⟨⟨⟨q1, q2⟩, q5⟩, q3⟩ := hq
  have q4 : iv_mt (iv_kf mi) idx = none := Option.isNone_iff_eq_none.mp q3
  refine dx_p hc rfl (fun h => ?_) (fun h => ?_) E
  · unfold iv_ca
    show (match iv_mt (iv_kf mi) idx with
      | none => none
      | some mj => _) = none
    rw [q4]
  · show (if iv_cp (iv_kf mi) idx = true then iv_cpy z pc al _ h else if iv_mm (iv_kf mi) idx = true then iv_min pc al (.int y :: .int x :: r) else if iv_ma (iv_kf mi) idx = true then iv_max pc al (.int y :: .int x :: r) else _) = _
    rw [if_neg (by rw [q1]; decide), if_neg (by rw [q2]; decide), if_pos q5]
    show (if (r.map fun v => v.category).sum ≤ 8 then _ else none) = _
    rw [if_pos (Nat.le_of_ble_eq_true hr)]
    rfl
theorem ds_dconst {n : Fin 2} {x : UInt64} (hc : iv_cd mi pc = some (.dconst n)) (hp : pc + 1 = p) (hx : (bif Nat.beq (n : Nat) 0 then FP.dconst0 else FP.dconst1) = x) (E : dE z mi d p al (.double x :: r) S v T) : dE z mi d pc al (r) S v T := by
  subst hp hx
  exact dx_p hc rfl (fun _ => rfl) (fun _ => rfl) E
theorem ds_ldc2d {idx : Nat} {x : UInt64} (hc : iv_cd mi pc = some (.ldc2_w idx)) (hp : pc + 3 = p) (h0 : iv_l2 (iv_kf mi) idx = none) (hx : id_lc (iv_kf mi) idx = some x) (E : dE z mi d p al (.double x :: r) S v T) : dE z mi d pc al (r) S v T := by
  subst hp
  exact dx_p hc rfl (fun _ => rfl) (fun _ => (by show id_l2 mi (pc + 3) idx al r = _; unfold id_l2; rw [h0]; dsimp only; rw [hx]; rfl)) E
theorem ds_dload_n {k : Fin 4} {x : UInt64} (hc : iv_cd mi pc = some (.dload_n k)) (hp : pc + 1 = p) (hl : al[(k : Nat)]? = some (some (.double x))) (E : dE z mi d p al (.double x :: r) S v T) : dE z mi d pc al (r) S v T := by
  subst hp
  exact dx_p hc rfl (fun _ => rfl) (fun _ => (by show id_ld al (k : Nat) _ = _; unfold id_ld; rw [hl]; rfl)) E
theorem ds_dload {k : Nat} {x : UInt64} (hc : iv_cd mi pc = some (.dload k)) (hp : pc + 2 = p) (hl : al[(k : Nat)]? = some (some (.double x))) (E : dE z mi d p al (.double x :: r) S v T) : dE z mi d pc al (r) S v T := by
  subst hp
  exact dx_p hc rfl (fun _ => rfl) (fun _ => (by show id_ld al (k : Nat) _ = _; unfold id_ld; rw [hl]; rfl)) E
theorem ds_fload_n {k : Fin 4} {x : UInt32} (hc : iv_cd mi pc = some (.fload_n k)) (hp : pc + 1 = p) (hl : al[(k : Nat)]? = some (some (.float x))) (E : dE z mi d p al (.float x :: r) S v T) : dE z mi d pc al (r) S v T := by
  subst hp
  exact dx_p hc rfl (fun _ => rfl) (fun _ => (by show id_lf al (k : Nat) _ = _; unfold id_lf; rw [hl]; rfl)) E
theorem ds_dstore_n {k : Fin 4} {x : UInt64} {M : Nat} (hc : iv_cd mi pc = some (.dstore_n k)) (hp : pc + 1 = p) (hm : iv_mx mi = M) (hk : Nat.ble ((k : Nat) + 2) M = true) (ha : fx_s2 al (k : Nat) (.double x) = al') (E : dE z mi d p al' (r) S v T) : dE z mi d pc al (.double x :: r) S v T := by
  subst hp ha
  refine dx_p hc rfl (fun _ => rfl) (fun _ => ?_) E
  show iv_sl mi (k : Nat) 1 _ = _
  unfold iv_sl
  rw [hm, if_pos (show (k : Nat) + 1 < M from Nat.le_of_ble_eq_true hk), fx_s2_s]
theorem ds_dstore {k : Nat} {x : UInt64} {M : Nat} (hc : iv_cd mi pc = some (.dstore k)) (hp : pc + 2 = p) (hm : iv_mx mi = M) (hk : Nat.ble ((k : Nat) + 2) M = true) (ha : fx_s2 al (k : Nat) (.double x) = al') (E : dE z mi d p al' (r) S v T) : dE z mi d pc al (.double x :: r) S v T := by
  subst hp ha
  refine dx_p hc rfl (fun _ => rfl) (fun _ => ?_) E
  show iv_sl mi (k : Nat) 1 _ = _
  unfold iv_sl
  rw [hm, if_pos (show (k : Nat) + 1 < M from Nat.le_of_ble_eq_true hk), fx_s2_s]
theorem ds_dadd {x y : UInt64} (hc : iv_cd mi pc = some .dadd) (hp : pc + 1 = p) (hn : id_n6 (FP.dadd x y) = true) (E : dE z mi d p al (.double (FP.dadd x y) :: r) S v T) : dE z mi d pc al (.double y :: .double x :: r) S v T := by
  subst hp
  exact dx_p hc rfl (fun _ => rfl) (fun _ => (by show (if id_n6 (FP.dadd x y) = true then _ else none) = _; rw [if_pos hn]; rfl)) E
theorem ds_dsub {x y : UInt64} (hc : iv_cd mi pc = some .dsub) (hp : pc + 1 = p) (hn : id_n6 (FP.dsub x y) = true) (E : dE z mi d p al (.double (FP.dsub x y) :: r) S v T) : dE z mi d pc al (.double y :: .double x :: r) S v T := by
  subst hp
  exact dx_p hc rfl (fun _ => rfl) (fun _ => (by show (if id_n6 (FP.dsub x y) = true then _ else none) = _; rw [if_pos hn]; rfl)) E
theorem ds_dmul {x y : UInt64} (hc : iv_cd mi pc = some .dmul) (hp : pc + 1 = p) (hn : id_n6 (FP.dmul x y) = true) (E : dE z mi d p al (.double (FP.dmul x y) :: r) S v T) : dE z mi d pc al (.double y :: .double x :: r) S v T := by
  subst hp
  exact dx_p hc rfl (fun _ => rfl) (fun _ => (by show (if id_n6 (FP.dmul x y) = true then _ else none) = _; rw [if_pos hn]; rfl)) E
theorem ds_ddiv {x y : UInt64} (hc : iv_cd mi pc = some .ddiv) (hp : pc + 1 = p) (hn : id_n6 (FP.ddiv x y) = true) (E : dE z mi d p al (.double (FP.ddiv x y) :: r) S v T) : dE z mi d pc al (.double y :: .double x :: r) S v T := by
  subst hp
  exact dx_p hc rfl (fun _ => rfl) (fun _ => (by show (if id_n6 (FP.ddiv x y) = true then _ else none) = _; rw [if_pos hn]; rfl)) E
theorem ds_drem {x y : UInt64} (hc : iv_cd mi pc = some .drem) (hp : pc + 1 = p) (hn : id_n6 (FP.drem x y) = true) (E : dE z mi d p al (.double (FP.drem x y) :: r) S v T) : dE z mi d pc al (.double y :: .double x :: r) S v T := by
  subst hp
  exact dx_p hc rfl (fun _ => rfl) (fun _ => (by show (if id_n6 (FP.drem x y) = true then _ else none) = _; rw [if_pos hn]; rfl)) E
theorem ds_dcmp {x y : UInt64} {c : CmpOp} (hc : iv_cd mi pc = some (.dcmp c)) (hp : pc + 1 = p) {c0 : Int32} (hv : (Op.cmpValue (FP.dcmp x y) c) = c0) (E : dE z mi d p al (.int c0 :: r) S v T) : dE z mi d pc al (.double y :: .double x :: r) S v T := by
  subst hp hv
  exact dx_p hc rfl (fun _ => rfl) (fun _ => rfl) E
theorem ds_i2d {x : Int32} (hc : iv_cd mi pc = some .i2d) (hp : pc + 1 = p) (E : dE z mi d p al (.double (FP.i2d x) :: r) S v T) : dE z mi d pc al (.int x :: r) S v T := by
  subst hp
  exact dx_p hc rfl (fun _ => rfl) (fun _ => rfl) E
theorem ds_l2d {x : Int64} (hc : iv_cd mi pc = some .l2d) (hp : pc + 1 = p) (E : dE z mi d p al (.double (FP.l2d x) :: r) S v T) : dE z mi d pc al (.long x :: r) S v T := by
  subst hp
  exact dx_p hc rfl (fun _ => rfl) (fun _ => rfl) E
theorem ds_d2l {x : UInt64} (hc : iv_cd mi pc = some .d2l) (hp : pc + 1 = p) {c0 : Int64} (hv : (FP.d2l x) = c0) (E : dE z mi d p al (.long c0 :: r) S v T) : dE z mi d pc al (.double x :: r) S v T := by
  subst hp hv
  exact dx_p hc rfl (fun _ => rfl) (fun _ => rfl) E
theorem ds_d2f {x : UInt64} (hc : iv_cd mi pc = some .d2f) (hp : pc + 1 = p) (hn : id_n3 (FP.d2f x) = true) (E : dE z mi d p al (.float (FP.d2f x) :: r) S v T) : dE z mi d pc al (.double x :: r) S v T := by
  subst hp
  exact dx_p hc rfl (fun _ => rfl) (fun _ => (by show (if id_n3 (FP.d2f x) = true then _ else none) = _; rw [if_pos hn]; rfl)) E
theorem ds_f2d {x : UInt32} (hc : iv_cd mi pc = some .f2d) (hp : pc + 1 = p) (hn : id_n6 (FP.f2d x) = true) (E : dE z mi d p al (.double (FP.f2d x) :: r) S v T) : dE z mi d pc al (.float x :: r) S v T := by
  subst hp
  exact dx_p hc rfl (fun _ => rfl) (fun _ => (by show (if id_n6 (FP.f2d x) = true then _ else none) = _; rw [if_pos hn]; rfl)) E
theorem ds_jdk1 {idx : Nat} {x : UInt64} (hc : iv_cd mi pc = some (.invokestatic idx)) (hp : pc + 3 = p) (hq : (!(iv_cp (iv_kf mi) idx) && !(iv_mm (iv_kf mi) idx) && !(iv_ma (iv_kf mi) idx) && (iv_mt (iv_kf mi) idx).isNone && decide (id_dj (iv_kf mi) idx = some 1)) = true) (hr : Nat.ble (r.map fun v => v.category).sum 8 = true) (hn : id_n6 x = true) {c : Int64} (hv : x.toInt64 = c) (E : dE z mi d p al (.long c :: r) S v T) : dE z mi d pc al (.double x :: r) S v T := by
  subst hp hv
  have ho : id_cl 1 pc al (.double x :: r) = some (pc + 3, al, .long x.toInt64 :: r, none) := by
    show (if (id_n6 x && id_c8 r) = true then _ else none) = _
    rw [if_pos (fx_c8 hn hr)]
    rfl
  exact dx_p hc rfl (fun h => (fx_jd (z := z) hq ho).1) (fun h => (fx_jd hq ho).2) E
theorem ds_jdk2 {idx : Nat} {x : UInt32} (hc : iv_cd mi pc = some (.invokestatic idx)) (hp : pc + 3 = p) (hq : (!(iv_cp (iv_kf mi) idx) && !(iv_mm (iv_kf mi) idx) && !(iv_ma (iv_kf mi) idx) && (iv_mt (iv_kf mi) idx).isNone && decide (id_dj (iv_kf mi) idx = some 2)) = true) (hr : Nat.ble (r.map fun v => v.category).sum 8 = true) (hn : id_n3 x = true) {c : Int32} (hv : x.toInt32 = c) (E : dE z mi d p al (.int c :: r) S v T) : dE z mi d pc al (.float x :: r) S v T := by
  subst hp hv
  have ho : id_cl 2 pc al (.float x :: r) = some (pc + 3, al, .int x.toInt32 :: r, none) := by
    show (if (id_n3 x && id_c8 r) = true then _ else none) = _
    rw [if_pos (fx_c8 hn hr)]
    rfl
  exact dx_p hc rfl (fun h => (fx_jd (z := z) hq ho).1) (fun h => (fx_jd hq ho).2) E
end
section
variable {z : iv_Z} {mi d pc p : Nat} {al al' : iv_L} {r : List Value} {s : gx_S} {δ : dS} {T S2 : DS} {v : Option Value}
theorem ds_i2c {x : Int32} (hc : iv_cd mi pc = some .i2c) (hp : pc + 1 = p) {c : Int32} (hv : (x.toUInt32 % 65536).toInt32 = c) (E : dE z mi d p al (.int c :: r) (s, δ) v T) : dE z mi d pc al (.int x :: r) (s, δ) v T := by
  subst hp hv
  exact dx_p hc rfl (fun _ => rfl) (fun _ => rfl) E
theorem ds_null (hc : iv_cd mi pc = some .aconst_null) (hp : pc + 1 = p) (E : dE z mi d p al (.null :: r) (s, δ) v T) : dE z mi d pc al r (s, δ) v T := by
  subst hp
  exact dx_p hc rfl (fun _ => rfl) (fun _ => rfl) E
theorem ds_ifnonnull {off : Int} {t k : Nat} (hc : iv_cd mi pc = some (.ifnonnull off)) (ht : iv_tg pc off = some t) (E : dE z mi d t al r (s, δ) v T) : dE z mi d pc al (.ref k :: r) (s, δ) v T :=
  dx_p hc rfl (fun _ => rfl) (fun _ => (by show iv_jp pc off al r = _; unfold iv_jp; rw [ht]; rfl)) E
theorem ds_ifnonnull_a {off : Int} {t k : Nat} (hc : iv_cd mi pc = some (.ifnonnull off)) (hz : (z k).isSome = true) (ht : iv_tg pc off = some t) (E : dE z mi d t al r (s, δ) v T) : dE z mi d pc al (.retAddr k :: r) (s, δ) v T :=
  dx_p hc rfl (fun _ => rfl) (fun _ => (by show (if (z k).isSome = true then iv_jp pc off al r else none) = _; rw [if_pos hz]; unfold iv_jp; rw [ht]; rfl)) E
theorem ds_acmp_ne_f {off : Int} {t a b : Nat} (hc : iv_cd mi pc = some (.if_acmp .ne off)) (ht : iv_tg pc off = some t) (hp : pc + 3 = p) (c : a = b) (E : dE z mi d p al r (s, δ) v T) : dE z mi d pc al (.ref b :: .ref a :: r) (s, δ) v T := by
  subst hp c
  exact dx_p hc rfl (fun _ => rfl) (fun _ => (by show iv_br (decide (¬ a = a)) pc off al r = _; unfold iv_br; rw [ht]; simp)) E
theorem ds_acmp_ne_t {off : Int} {t a b : Nat} (hc : iv_cd mi pc = some (.if_acmp .ne off)) (ht : iv_tg pc off = some t) (c : ¬ a = b) (E : dE z mi d t al r (s, δ) v T) : dE z mi d pc al (.ref b :: .ref a :: r) (s, δ) v T :=
  dx_p hc rfl (fun _ => rfl) (fun _ => (by show iv_br (decide (¬ a = b)) pc off al r = _; unfold iv_br; rw [ht]; simp [c])) E
theorem ds_gets {idx k : Nat} (hc : iv_cd mi pc = some (.getstatic idx)) (hp : pc + 3 = p) (hs : iv_ss (iv_kf mi) idx = some k) (hk : Nat.blt k 4 = true) (E : dE z mi d p al (iv_sv k :: r) (s, δ) v T) : dE z mi d pc al r (s, δ) v T := by
  subst hp
  have hk : k < 4 := Nat.le_of_ble_eq_true hk
  refine dx_p hc rfl (fun _ => rfl) (fun _ => ?_) E
  simp only [iv_op, iv_sem]
  rw [hs]
  match k, hk with
  | 0, _ => rfl
  | 1, _ => rfl
  | 2, _ => rfl
  | 3, _ => rfl
theorem ds_ldcs {idx k : Nat} (hc : iv_cd mi pc = some (.ldc idx)) (hp : pc + 2 = p) (h0 : iv_lc (iv_kf mi) idx = none) (hs : iv_ls (iv_kf mi) idx = some k) (hz : (z k).isSome = true) (E : dE z mi d p al (.retAddr k :: r) (s, δ) v T) : dE z mi d pc al r (s, δ) v T := by
  subst hp
  refine dx_p hc rfl (fun _ => rfl) (fun _ => ?_) E
  simp only [iv_op, iv_sem]
  rw [h0, hs]
  show (if (z k).isSome = true then _ else none) = _
  rw [if_pos hz]
/-- read-only arrays, objects -/
theorem ds_alen_a {k t n : Nat} {f : Nat → Int32} {m : Int} (hc : iv_cd mi pc = some .arraylength) (hp : pc + 1 = p) (hz : iv_zi z k = some (t, n, f)) (hm : (n : Int) = m) (E : dE z mi d p al (.int (Int32.ofInt m) :: r) (s, δ) v T) : dE z mi d pc al (.retAddr k :: r) (s, δ) v T := by
  subst hp hm
  refine dx_p hc rfl (fun _ => rfl) (fun _ => ?_) E
  show ((iv_zi z k).bind _) = _
  rw [hz]
  show some (pc + 1, al, Value.int (Int32.ofNat n) :: r, none) = _
  rw [Int32.ofInt_eq_ofNat]
theorem dI_32 {n : Nat} {i : Int} (h0 : 0 ≤ i) (h1 : i < (n : Int)) (hn : n ≤ 60000000) : iv_in (Int32.ofInt i) n = true ∧ (Int32.ofInt i).toNatClampNeg = i.toNat := by
  have e : (Int32.ofInt i).toInt = i := ga_ti ⟨by omega, by omega⟩
  have e2 : (Int32.ofInt i).toNatClampNeg = i.toNat := by
    show (Int32.ofInt i).toInt.toNat = _
    rw [e]
  refine ⟨?_, e2⟩
  unfold iv_in
  rw [e2, decide_eq_true (show (0 : Int32) ≤ Int32.ofInt i by rw [Int32.le_iff_toInt_le, e]; exact h0), decide_eq_true (show i.toNat < n by omega)]
  rfl
theorem ds_iaload_a {k : Nat} {i : Int} {n : Nat} {f : Nat → Int32} (hc : iv_cd mi pc = some .iaload) (hp : pc + 1 = p) (hz : iv_zi z k = some (0, n, f)) (hn : n ≤ 60000000) (hi : 0 ≤ i ∧ i < (n : Int)) (E : dE z mi d p al (.int (Int32.ofInt (f i.toNat).toInt) :: r) (s, δ) v T) : dE z mi d pc al (.int (Int32.ofInt i) :: .retAddr k :: r) (s, δ) v T := by
  subst hp
  obtain ⟨e1, e2⟩ := dI_32 hi.1 hi.2 hn
  refine dx_p hc rfl (fun _ => rfl) (fun _ => ?_) E
  show ((iv_zi z k).bind _) = _
  rw [hz]
  show (if iv_in (Int32.ofInt i) n = true ∧ iv_is 0 .int = true then iv_pi (pc + 1) al (f (Int32.ofInt i).toNatClampNeg) r else none) = _
  rw [if_pos ⟨e1, rfl⟩, e2, Int32.ofInt_toInt]
  rfl
theorem ds_baload_a {k : Nat} {i : Int} {n : Nat} {f : Nat → Int32} (hc : iv_cd mi pc = some .baload) (hp : pc + 1 = p) (hz : iv_zi z k = some (3, n, f)) (hn : n ≤ 60000000) (hi : 0 ≤ i ∧ i < (n : Int)) (E : dE z mi d p al (.int (Int32.ofInt (f i.toNat).toInt) :: r) (s, δ) v T) : dE z mi d pc al (.int (Int32.ofInt i) :: .retAddr k :: r) (s, δ) v T := by
  subst hp
  obtain ⟨e1, e2⟩ := dI_32 hi.1 hi.2 hn
  refine dx_p hc rfl (fun _ => rfl) (fun _ => ?_) E
  show ((iv_zi z k).bind _) = _
  rw [hz]
  show (if iv_in (Int32.ofInt i) n = true ∧ iv_is 3 .byte = true then iv_pi (pc + 1) al (f (Int32.ofInt i).toNatClampNeg) r else none) = _
  rw [if_pos ⟨e1, rfl⟩, e2, Int32.ofInt_toInt]
  rfl
theorem ds_gfa {idx k : Nat} {w : Value} (hc : iv_cd mi pc = some (.getfield idx)) (hp : pc + 3 = p) (hz : iv_zf z mi idx k = some w) (E : dE z mi d p al (w :: r) (s, δ) v T) : dE z mi d pc al (.retAddr k :: r) (s, δ) v T := by
  subst hp
  refine dx_p hc rfl (fun _ => rfl) (fun _ => ?_) E
  show ((iv_zf z mi idx k).bind _) = _
  rw [hz]
  rfl
/-- fields of dynamic objects -/
def dkf (mi idx ci j t : Nat) : Bool := decide (iv_fd (iv_kf mi) idx = some (ci, j)) && Nat.blt j (dnf ci) && Nat.beq (dty (iv_ft ci j)) t
theorem dkf_s {idx ci j t : Nat} (h : dkf mi idx ci j t = true) : iv_fd (iv_kf mi) idx = some (ci, j) ∧ j < dnf ci ∧ dty (iv_ft ci j) = t := by
  simp only [dkf, Bool.and_eq_true, decide_eq_true_eq] at h
  exact ⟨h.1.1, Nat.le_of_ble_eq_true h.1.2, Nat.eq_of_beq_eq_true h.2⟩
theorem dgf {h : iv_H} {idx ci j k t : Nat} (R : dR (s, δ) h) (hf : dkf mi idx ci j t = true) (hk : dO δ k ci) : iv_gf mi idx h k = some (dv δ k ci j) := by
  obtain ⟨h1, h2, -⟩ := dkf_s hf
  obtain ⟨fs, g1, g2, g3⟩ := dR_o R hk
  unfold iv_gf
  rw [h1]
  dsimp only
  rw [g1]
  dsimp only
  rw [if_pos rfl]
  exact g3 j (by rw [g2]; exact h2)
theorem ds_gfi {idx ci j k : Nat} (hc : iv_cd mi pc = some (.getfield idx)) (hp : pc + 3 = p) (hf : dkf mi idx ci j 0 = true) (hk : dO δ k ci) (E : dE z mi d p al (.int (Int32.ofInt (δ.I k j)) :: r) (s, δ) v T) : dE z mi d pc al (.ref k :: r) (s, δ) v T := by
  subst hp
  refine dx_q hc rfl (fun _ => rfl) (fun h R => iv_gf_o ?_) E
  rw [dgf R hf hk]
  unfold dv
  rw [(dkf_s hf).2.2]
  rfl
theorem ds_gfl {idx ci j k : Nat} (hc : iv_cd mi pc = some (.getfield idx)) (hp : pc + 3 = p) (hf : dkf mi idx ci j 1 = true) (hk : dO δ k ci) (E : dE z mi d p al (.long (Int64.ofInt (δ.I k j)) :: r) (s, δ) v T) : dE z mi d pc al (.ref k :: r) (s, δ) v T := by
  subst hp
  refine dx_q hc rfl (fun _ => rfl) (fun h R => iv_gf_o ?_) E
  rw [dgf R hf hk]
  unfold dv
  rw [(dkf_s hf).2.2]
  rfl
theorem ds_gfr {idx ci j k a : Nat} (hc : iv_cd mi pc = some (.getfield idx)) (hp : pc + 3 = p) (hf : dkf mi idx ci j 2 = true) (hk : dO δ k ci) (ha : δ.P k j = some a) (E : dE z mi d p al (.ref a :: r) (s, δ) v T) : dE z mi d pc al (.ref k :: r) (s, δ) v T := by
  subst hp
  refine dx_q hc rfl (fun _ => rfl) (fun h R => iv_gf_o ?_) E
  rw [dgf R hf hk]
  unfold dv
  rw [(dkf_s hf).2.2]
  show some (match δ.P k j with | none => Value.null | some q => .ref q) = _
  rw [ha]
/-- who may write a field -/
def dkp (mi idx ci j : Nat) : Bool := !(iv_fi ci j) || (iv_ini mi && Nat.beq (iv_ow ci) (iv_kf mi) && (iv_fn (iv_kf mi) idx).isNone)
theorem dkp_s {idx ci j : Nat} (h : dkp mi idx ci j = true) : iv_fi ci j = false ∨ (iv_ini mi = true ∧ iv_ow ci = iv_kf mi ∧ iv_fn (iv_kf mi) idx = none) := by
  simp only [dkp, Bool.or_eq_true, Bool.not_eq_true', Bool.and_eq_true] at h
  rcases h with h | ⟨⟨h1, h2⟩, h3⟩
  · exact Or.inl h
  · exact Or.inr ⟨h1, Nat.eq_of_beq_eq_true h2, Option.isNone_iff_eq_none.mp h3⟩
theorem dpf {h : iv_H} {idx ci j k t : Nat} {w : Value} {ε : dS} (R : dR (s, δ) h) (hf : dkf mi idx ci j t = true) (hn : dkp mi idx ci j = true) (hk : dO δ k ci) (hw : iv_ok (iv_ft ci j) w = true) (h1 : ε.n = δ.n) (h2 : ε.sh = δ.sh) (h3 : dv ε k ci j = w) (h4 : ∀ i, i ≠ j → dv ε k ci i = dv δ k ci i) (h5 : ∀ a c', a ≠ k → dc δ a c' → dc ε a c') : ∃ c c0 : iv_C, iv_pf mi idx h k w = some (some k, c) ∧ h[k]? = some c0 ∧ iv_cz c0 = iv_cz c ∧ dR (s, ε) (h.set k c) := by
  obtain ⟨f1, f2, f3⟩ := dkf_s hf
  obtain ⟨fs, g1, g2, g3⟩ := dR_o R hk
  have hl : j < fs.length := by rw [g2]; exact f2
  refine ⟨.inl (ci, fs.set j w), .inl (ci, fs), ?_, g1, ?_, dR_set R hk.1 h1 h2 (fun _ => ⟨?_, fun i hi => ?_⟩) h5⟩
  · unfold iv_pf
    rw [f1, g1]
    dsimp only
    rw [if_pos ⟨rfl, hl, hw, dkp_s hn⟩]
  · show fs.length = (fs.set j w).length
    rw [List.length_set]
  · rw [h2, hk.2.2]
    show (100 + ci, dnf ci) = (100 + ci, (fs.set j w).length)
    rw [List.length_set, g2]
  · rw [List.length_set] at hi
    show (fs.set j w)[i]? = _
    by_cases e : j = i
    · subst e
      rw [List.getElem?_set_self hi, h3]
    · rw [List.getElem?_set_ne e, h4 i (fun q => e q.symm)]
      exact g3 i hi
theorem ds_pfi {idx ci j k : Nat} {x : Int} (hc : iv_cd mi pc = some (.putfield idx)) (hp : pc + 3 = p) (hf : dkf mi idx ci j 0 = true) (hn : dkp mi idx ci j = true) (hk : dO δ k ci) (hw : iv_ok (iv_ft ci j) (.int (Int32.ofInt x)) = true) (E : dE z mi d p al r (s, δ.w k j x) v T) : dE z mi d pc al (.int (Int32.ofInt x) :: .ref k :: r) (s, δ) v T := by
  subst hp
  refine dx_s hc rfl (fun _ => rfl) (fun h R => ?_) E
  obtain ⟨c, c0, e1, e2, e3, R2⟩ := dpf (ε := δ.w k j x) R hf hn hk hw rfl rfl (by unfold dv; rw [(dkf_s hf).2.2]; show Value.int (Int32.ofInt (if k = k ∧ j = j then x else _)) = _; rw [if_pos ⟨rfl, rfl⟩]) (fun i hi => by unfold dv; show (match dty (iv_ft ci i) with | 0 => Value.int (Int32.ofInt (if k = k ∧ i = j then x else δ.I k i)) | 1 => Value.long (Int64.ofInt (if k = k ∧ i = j then x else δ.I k i)) | _ => _) = _; rw [if_neg (fun q => hi q.2)]; rfl) (fun a c' ha => dc_w ha)
  refine ⟨k, c, c0, ?_, e2, e3, R2⟩
  show (iv_pf mi idx h k _).bind _ = _
  rw [e1]
  rfl
theorem ds_pfl {idx ci j k : Nat} {x : Int} (hc : iv_cd mi pc = some (.putfield idx)) (hp : pc + 3 = p) (hf : dkf mi idx ci j 1 = true) (hn : dkp mi idx ci j = true) (hk : dO δ k ci) (hw : iv_ok (iv_ft ci j) (.long (Int64.ofInt x)) = true) (E : dE z mi d p al r (s, δ.w k j x) v T) : dE z mi d pc al (.long (Int64.ofInt x) :: .ref k :: r) (s, δ) v T := by
  subst hp
  refine dx_s hc rfl (fun _ => rfl) (fun h R => ?_) E
  obtain ⟨c, c0, e1, e2, e3, R2⟩ := dpf (ε := δ.w k j x) R hf hn hk hw rfl rfl (by unfold dv; rw [(dkf_s hf).2.2]; show Value.long (Int64.ofInt (if k = k ∧ j = j then x else _)) = _; rw [if_pos ⟨rfl, rfl⟩]) (fun i hi => by unfold dv; show (match dty (iv_ft ci i) with | 0 => Value.int (Int32.ofInt (if k = k ∧ i = j then x else δ.I k i)) | 1 => Value.long (Int64.ofInt (if k = k ∧ i = j then x else δ.I k i)) | _ => _) = _; rw [if_neg (fun q => hi q.2)]; rfl) (fun a c' ha => dc_w ha)
  refine ⟨k, c, c0, ?_, e2, e3, R2⟩
  show (iv_pf mi idx h k _).bind _ = _
  rw [e1]
  rfl
theorem ds_pfr {idx ci j k q : Nat} (hc : iv_cd mi pc = some (.putfield idx)) (hp : pc + 3 = p) (hf : dkf mi idx ci j 2 = true) (hn : dkp mi idx ci j = true) (hk : dO δ k ci) (hw : iv_ok (iv_ft ci j) (.ref q) = true) (E : dE z mi d p al r (s, δ.r k j (some q)) v T) : dE z mi d pc al (.ref q :: .ref k :: r) (s, δ) v T := by
  subst hp
  refine dx_s hc rfl (fun _ => rfl) (fun h R => ?_) E
  obtain ⟨c, c0, e1, e2, e3, R2⟩ := dpf (ε := δ.r k j (some q)) R hf hn hk hw rfl rfl (by unfold dv; rw [(dkf_s hf).2.2]; show (match (if k = k ∧ j = j then some q else δ.P k j) with | none => Value.null | some q => .ref q) = _; rw [if_pos ⟨rfl, rfl⟩]) (fun i hi => by unfold dv; show (match dty (iv_ft ci i) with | 0 => _ | 1 => _ | _ => match (if k = k ∧ i = j then some q else δ.P k i) with | none => Value.null | some q => .ref q) = _; rw [if_neg (fun q => hi q.2)]; rfl) (fun a c' ha => dc_r ha)
  refine ⟨k, c, c0, ?_, e2, e3, R2⟩
  show (iv_pf mi idx h k _).bind _ = _
  rw [e1]
  rfl
/-- arrays -/
theorem ds_alen {k t : Nat} (hc : iv_cd mi pc = some .arraylength) (hp : pc + 1 = p) (hk : dA δ t k) (ht : Nat.blt t 7 = true) (E : dE z mi d p al (.int (Int32.ofInt ((δ.sh k).2 : Int)) :: r) (s, δ) v T) : dE z mi d pc al (.ref k :: r) (s, δ) v T := by
  subst hp
  have ht : t < 7 := Nat.le_of_ble_eq_true ht
  refine dx_q hc rfl (fun _ => rfl) (fun h R => ?_) E
  have fin : ∀ a : Nat × vp_A, h[k]? = some (.inr a) → a.1 = t → a.2.1 = (δ.sh k).2 → iv_op z mi pc .arraylength al (.ref k :: r) h = some (pc + 1, al, .int (Int32.ofInt ((δ.sh k).2 : Int)) :: r, none) := by
    intro a h1 h2 h3
    show (match h[k]? with
      | some (.inr a) => if (iv_ty[a.1]?).isSome = true then iv_pi (pc + 1) al (Int32.ofNat a.2.1) r else none
      | _ => none) = _
    rw [h1]
    dsimp only
    rw [h2, if_pos (by
      match t, ht with
      | 0, _ => rfl
      | 1, _ => rfl
      | 2, _ => rfl
      | 3, _ => rfl
      | 4, _ => rfl
      | 5, _ => rfl
      | 6, _ => rfl), h3, Int32.ofInt_eq_ofNat]
    rfl
  obtain ⟨g0, g1, g2⟩ := hk
  obtain ⟨hb, c, h1, h2⟩ := R.2.2.2 k g0 g1
  match c, h2 with
  | .inl (c, fs), h2 => exact absurd (g2.symm.trans (congrArg Prod.fst h2.1) : t = 100 + c) (by omega)
  | .inr (t', n, .inl f), h2 => exact fin _ h1 ((congrArg Prod.fst h2.1).symm.trans g2) (congrArg Prod.snd h2.1).symm
  | .inr (t', n, .inr (.inl f)), h2 => exact fin _ h1 ((congrArg Prod.fst h2.1).symm.trans g2) (congrArg Prod.snd h2.1).symm
  | .inr (t', n, .inr (.inr (.inl f))), h2 => exact h2.elim
  | .inr (t', n, .inr (.inr (.inr (.inl f)))), h2 => exact h2.elim
  | .inr (t', n, .inr (.inr (.inr (.inr f)))), h2 => exact fin _ h1 ((congrArg Prod.fst h2.1).symm.trans g2) (congrArg Prod.snd h2.1).symm
theorem ds_iaload {k : Nat} {i : Int} (hc : iv_cd mi pc = some .iaload) (hp : pc + 1 = p) (hk : dA δ 0 k) (hi : dI δ k i) (E : dE z mi d p al (.int (Int32.ofInt (δ.I k i.toNat)) :: r) (s, δ) v T) : dE z mi d pc al (.int (Int32.ofInt i) :: .ref k :: r) (s, δ) v T := by
  subst hp
  refine dx_q hc rfl (fun _ => rfl) (fun h R => ?_) E
  obtain ⟨n, f, h1, h2, h3, h4⟩ := dR_i R hk (Or.inl rfl)
  obtain ⟨i1, i2⟩ := hi
  rw [h2] at i2
  obtain ⟨e1, e2⟩ := dI_32 i1 i2 h3
  show (iv_ai h k).bind _ = _
  rw [fx_ai h1]
  show (if iv_in (Int32.ofInt i) n = true ∧ iv_is 0 .int = true then iv_pi (pc + 1) al (f (Int32.ofInt i).toNatClampNeg) r else none) = _
  rw [if_pos ⟨e1, rfl⟩, e2, h4 _ (by have : i < (n : Int) := i2; omega)]
  rfl
theorem ds_baload3 {k : Nat} {i : Int} (hc : iv_cd mi pc = some .baload) (hp : pc + 1 = p) (hk : dA δ 3 k) (hi : dI δ k i) (E : dE z mi d p al (.int (Int32.ofInt (δ.I k i.toNat)) :: r) (s, δ) v T) : dE z mi d pc al (.int (Int32.ofInt i) :: .ref k :: r) (s, δ) v T := by
  subst hp
  refine dx_q hc rfl (fun _ => rfl) (fun h R => ?_) E
  obtain ⟨n, f, h1, h2, h3, h4⟩ := dR_i R hk (Or.inr (Or.inr rfl))
  obtain ⟨i1, i2⟩ := hi
  rw [h2] at i2
  obtain ⟨e1, e2⟩ := dI_32 i1 i2 h3
  have q : iv_ald .byte pc al (.int (Int32.ofInt i) :: .ref k :: r) h = some (pc + 1, al, .int (Int32.ofInt (δ.I k i.toNat)) :: r, none) := by
    show (iv_ai h k).bind _ = _
    rw [fx_ai h1]
    show (if iv_in (Int32.ofInt i) n = true ∧ iv_is 3 .byte = true then iv_pi (pc + 1) al (f (Int32.ofInt i).toNatClampNeg) r else none) = _
    rw [if_pos ⟨e1, rfl⟩, e2, h4 _ (by have : i < (n : Int) := i2; omega)]
    rfl
  show (match iv_ald .byte pc al (.int (Int32.ofInt i) :: .ref k :: r) h with
    | some o => some o
    | none => iv_ald .boolean pc al (.int (Int32.ofInt i) :: .ref k :: r) h) = _
  rw [q]
theorem ds_baload2 {k : Nat} {i : Int} (hc : iv_cd mi pc = some .baload) (hp : pc + 1 = p) (hk : dA δ 2 k) (hi : dI δ k i) (E : dE z mi d p al (.int (Int32.ofInt (δ.I k i.toNat)) :: r) (s, δ) v T) : dE z mi d pc al (.int (Int32.ofInt i) :: .ref k :: r) (s, δ) v T := by
  subst hp
  refine dx_q hc rfl (fun _ => rfl) (fun h R => ?_) E
  obtain ⟨n, f, h1, h2, h3, h4⟩ := dR_i R hk (Or.inr (Or.inl rfl))
  obtain ⟨i1, i2⟩ := hi
  rw [h2] at i2
  obtain ⟨e1, e2⟩ := dI_32 i1 i2 h3
  have q0 : iv_ald .byte pc al (.int (Int32.ofInt i) :: .ref k :: r) h = none := by
    show (iv_ai h k).bind _ = _
    rw [fx_ai h1]
    show (if iv_in (Int32.ofInt i) n = true ∧ iv_is 2 .byte = true then _ else none) = _
    rw [if_neg (fun q => absurd q.2 (by decide))]
  have q : iv_ald .boolean pc al (.int (Int32.ofInt i) :: .ref k :: r) h = some (pc + 1, al, .int (Int32.ofInt (δ.I k i.toNat)) :: r, none) := by
    show (iv_ai h k).bind _ = _
    rw [fx_ai h1]
    show (if iv_in (Int32.ofInt i) n = true ∧ iv_is 2 .boolean = true then iv_pi (pc + 1) al (f (Int32.ofInt i).toNatClampNeg) r else none) = _
    rw [if_pos ⟨e1, rfl⟩, e2, h4 _ (by have : i < (n : Int) := i2; omega)]
    rfl
  show (match iv_ald .byte pc al (.int (Int32.ofInt i) :: .ref k :: r) h with
    | some o => some o
    | none => iv_ald .boolean pc al (.int (Int32.ofInt i) :: .ref k :: r) h) = _
  rw [q0]
  exact q
theorem ds_laload {k : Nat} {i : Int} (hc : iv_cd mi pc = some .laload) (hp : pc + 1 = p) (hk : dA δ 1 k) (hi : dI δ k i) (E : dE z mi d p al (.long (Int64.ofInt (δ.I k i.toNat)) :: r) (s, δ) v T) : dE z mi d pc al (.int (Int32.ofInt i) :: .ref k :: r) (s, δ) v T := by
  subst hp
  refine dx_q hc rfl (fun _ => rfl) (fun h R => ?_) E
  obtain ⟨n, f, h1, h2, h3, h4⟩ := dR_l R hk
  obtain ⟨i1, i2⟩ := hi
  rw [h2] at i2
  obtain ⟨e1, e2⟩ := dI_32 i1 i2 h3
  have q : iv_aj h k = some (1, n, f) := by unfold iv_aj; rw [h1]
  show (iv_aj h k).bind _ = _
  rw [q]
  show (if iv_in (Int32.ofInt i) n = true ∧ iv_is 1 .long = true then iv_pj (pc + 1) al (f (Int32.ofInt i).toNatClampNeg) r else none) = _
  rw [if_pos ⟨e1, rfl⟩, e2, h4 _ (by have : i < (n : Int) := i2; omega)]
  rfl
theorem ds_aaload {k q t : Nat} {i : Int} (hc : iv_cd mi pc = some .aaload) (hp : pc + 1 = p) (ht : (Nat.ble 4 t && Nat.blt t 99 && iv_iq t) = true) (hk : dA δ t k) (hi : dI δ k i) (hq : δ.P k i.toNat = some q) (E : dE z mi d p al (.ref q :: r) (s, δ) v T) : dE z mi d pc al (.int (Int32.ofInt i) :: .ref k :: r) (s, δ) v T := by
  subst hp
  simp only [Bool.and_eq_true] at ht
  obtain ⟨⟨t1, t2⟩, t3⟩ := ht
  refine dx_q hc rfl (fun _ => rfl) (fun h R => ?_) E
  obtain ⟨n, f, h1, h2, h3, h4⟩ := dR_r R hk ⟨Nat.le_of_ble_eq_true t1, Nat.le_of_ble_eq_true t2⟩
  obtain ⟨i1, i2⟩ := hi
  rw [h2] at i2
  obtain ⟨e1, e2⟩ := dI_32 i1 i2 h3
  have q0 : iv_aq h k = some (t, n, f) := by unfold iv_aq; rw [h1]
  show (iv_aq h k).bind _ = _
  rw [q0]
  show (if iv_in (Int32.ofInt i) n = true ∧ iv_iq t = true then (match f (Int32.ofInt i).toNatClampNeg with
    | some b => some (pc + 1, al, Value.ref b :: r, none)
    | none => none) else none) = _
  rw [if_pos ⟨e1, t3⟩, e2, h4 _ (by have : i < (n : Int) := i2; omega), hq]
/-- a number of an array is another -/
theorem dR_1 {h : iv_H} {t k n i : Nat} {f : Nat → Int32} {x : Int} {y : Int32} (R : dR (s, δ) h) (h0 : 215 ≤ k) (hs : δ.sh k = (t, n)) (ht : t = 0 ∨ t = 2 ∨ t = 3) (hf : ∀ j, j < n → f j = Int32.ofInt (δ.I k j)) (hy : y = Int32.ofInt x) : dR (s, δ.w k i x) (h.set k (.inr (t, n, .inl (upd f i y)))) := by
  refine dR_set R h0 rfl rfl (fun _ => ⟨hs, ht, fun j hj => ?_⟩) fun a c' ha hc => dc_w ha hc
  show (if j = i then y else f j) = Int32.ofInt (if k = k ∧ j = i then x else δ.I k j)
  by_cases e : j = i
  · rw [if_pos e, if_pos ⟨rfl, e⟩]
    exact hy
  · rw [if_neg e, if_neg fun q => e q.2]
    exact hf j hj
theorem ds_iastore {k : Nat} {i x : Int} (hc : iv_cd mi pc = some .iastore) (hp : pc + 1 = p) (hk : dA δ 0 k) (hi : dI δ k i) (E : dE z mi d p al r (s, δ.w k i.toNat x) v T) : dE z mi d pc al (.int (Int32.ofInt x) :: .int (Int32.ofInt i) :: .ref k :: r) (s, δ) v T := by
  subst hp
  refine dx_s hc rfl (fun _ => rfl) (fun h R => ?_) E
  obtain ⟨n, f, h1, h2, h3, h4⟩ := dR_i R hk (Or.inl rfl)
  obtain ⟨i1, i2⟩ := hi
  rw [h2] at i2
  obtain ⟨e1, e2⟩ := dI_32 i1 i2 h3
  refine ⟨k, .inr (0, n, .inl (upd f i.toNat (Int32.ofInt x))), _, ?_, h1, rfl, dR_1 R hk.1 h2 (Or.inl rfl) h4 rfl⟩
  show (iv_ai h k).bind _ = _
  rw [fx_ai h1]
  show (if iv_in (Int32.ofInt i) n = true ∧ iv_is 0 .int = true then some (pc + 1, al, r, some (some k, Sum.inr (0, n, Sum.inl (upd f (Int32.ofInt i).toNatClampNeg (vp_nar .int (Int32.ofInt x)))))) else none) = _
  rw [if_pos ⟨e1, rfl⟩, e2]
  rfl
theorem ds_bastore3 {k : Nat} {i x : Int} (hc : iv_cd mi pc = some .bastore) (hp : pc + 1 = p) (hk : dA δ 3 k) (hi : dI δ k i) (E : dE z mi d p al r (s, δ.w k i.toNat (gn3 x)) v T) : dE z mi d pc al (.int (Int32.ofInt x) :: .int (Int32.ofInt i) :: .ref k :: r) (s, δ) v T := by
  subst hp
  refine dx_s hc rfl (fun _ => rfl) (fun h R => ?_) E
  obtain ⟨n, f, h1, h2, h3, h4⟩ := dR_i R hk (Or.inr (Or.inr rfl))
  obtain ⟨i1, i2⟩ := hi
  rw [h2] at i2
  obtain ⟨e1, e2⟩ := dI_32 i1 i2 h3
  refine ⟨k, .inr (3, n, Sum.inl (upd f i.toNat (vp_nar .byte (Int32.ofInt x)))), _, ?_, h1, rfl, dR_1 R hk.1 h2 (Or.inr (Or.inr rfl)) h4 (Int32.ofInt_toInt _).symm⟩
  have q : iv_ast .byte pc al (.int (Int32.ofInt x) :: .int (Int32.ofInt i) :: .ref k :: r) h = some (pc + 1, al, r, some (some k, Sum.inr (3, n, Sum.inl (upd f i.toNat (vp_nar .byte (Int32.ofInt x)))))) := by
    show (iv_ai h k).bind _ = _
    rw [fx_ai h1]
    show (if iv_in (Int32.ofInt i) n = true ∧ iv_is 3 .byte = true then some (pc + 1, al, r, some (some k, Sum.inr (3, n, Sum.inl (upd f (Int32.ofInt i).toNatClampNeg (vp_nar .byte (Int32.ofInt x)))))) else none) = _
    rw [if_pos ⟨e1, rfl⟩, e2]
  show (match iv_ast .byte pc al (.int (Int32.ofInt x) :: .int (Int32.ofInt i) :: .ref k :: r) h with
    | some o => some o
    | none => iv_ast .boolean pc al (.int (Int32.ofInt x) :: .int (Int32.ofInt i) :: .ref k :: r) h) = _
  rw [q]
theorem ds_bastore2 {k : Nat} {i x : Int} (hc : iv_cd mi pc = some .bastore) (hp : pc + 1 = p) (hk : dA δ 2 k) (hi : dI δ k i) (E : dE z mi d p al r (s, δ.w k i.toNat (gn2 x)) v T) : dE z mi d pc al (.int (Int32.ofInt x) :: .int (Int32.ofInt i) :: .ref k :: r) (s, δ) v T := by
  subst hp
  refine dx_s hc rfl (fun _ => rfl) (fun h R => ?_) E
  obtain ⟨n, f, h1, h2, h3, h4⟩ := dR_i R hk (Or.inr (Or.inl rfl))
  obtain ⟨i1, i2⟩ := hi
  rw [h2] at i2
  obtain ⟨e1, e2⟩ := dI_32 i1 i2 h3
  refine ⟨k, .inr (2, n, Sum.inl (upd f i.toNat (vp_nar .boolean (Int32.ofInt x)))), _, ?_, h1, rfl, dR_1 R hk.1 h2 (Or.inr (Or.inl rfl)) h4 (Int32.ofInt_toInt _).symm⟩
  have q0 : iv_ast .byte pc al (.int (Int32.ofInt x) :: .int (Int32.ofInt i) :: .ref k :: r) h = none := by
    show (iv_ai h k).bind _ = _
    rw [fx_ai h1]
    show (if iv_in (Int32.ofInt i) n = true ∧ iv_is 2 .byte = true then _ else none) = _
    rw [if_neg (fun q => absurd q.2 (by decide))]
  have q : iv_ast .boolean pc al (.int (Int32.ofInt x) :: .int (Int32.ofInt i) :: .ref k :: r) h = some (pc + 1, al, r, some (some k, Sum.inr (2, n, Sum.inl (upd f i.toNat (vp_nar .boolean (Int32.ofInt x)))))) := by
    show (iv_ai h k).bind _ = _
    rw [fx_ai h1]
    show (if iv_in (Int32.ofInt i) n = true ∧ iv_is 2 .boolean = true then some (pc + 1, al, r, some (some k, Sum.inr (2, n, Sum.inl (upd f (Int32.ofInt i).toNatClampNeg (vp_nar .boolean (Int32.ofInt x)))))) else none) = _
    rw [if_pos ⟨e1, rfl⟩, e2]
  show (match iv_ast .byte pc al (.int (Int32.ofInt x) :: .int (Int32.ofInt i) :: .ref k :: r) h with
    | some o => some o
    | none => iv_ast .boolean pc al (.int (Int32.ofInt x) :: .int (Int32.ofInt i) :: .ref k :: r) h) = _
  rw [q0]
  exact q
theorem ds_lastore {k : Nat} {i x : Int} (hc : iv_cd mi pc = some .lastore) (hp : pc + 1 = p) (hk : dA δ 1 k) (hi : dI δ k i) (E : dE z mi d p al r (s, δ.w k i.toNat x) v T) : dE z mi d pc al (.long (Int64.ofInt x) :: .int (Int32.ofInt i) :: .ref k :: r) (s, δ) v T := by
  subst hp
  refine dx_s hc rfl (fun _ => rfl) (fun h R => ?_) E
  obtain ⟨n, f, h1, h2, h3, h4⟩ := dR_l R hk
  obtain ⟨i1, i2⟩ := hi
  rw [h2] at i2
  obtain ⟨e1, e2⟩ := dI_32 i1 i2 h3
  refine ⟨k, .inr (1, n, .inr (.inl (vp_updL f i.toNat (Int64.ofInt x)))), _, ?_, h1, rfl, ?_⟩
  · have q : iv_aj h k = some (1, n, f) := by unfold iv_aj; rw [h1]
    show (iv_aj h k).bind _ = _
    rw [q]
    show (if iv_in (Int32.ofInt i) n = true ∧ iv_is 1 .long = true then some (pc + 1, al, r, some (some k, Sum.inr (1, n, Sum.inr (Sum.inl (vp_updL f (Int32.ofInt i).toNatClampNeg (Int64.ofInt x)))))) else none) = _
    rw [if_pos ⟨e1, rfl⟩, e2]
  · refine dR_set R hk.1 rfl rfl (fun _ => ⟨h2, rfl, fun j hj => ?_⟩) fun a c' ha hc => dc_w ha hc
    show (if j = i.toNat then Int64.ofInt x else f j) = Int64.ofInt (if k = k ∧ j = i.toNat then x else δ.I k j)
    by_cases e : j = i.toNat
    · rw [if_pos e, if_pos ⟨rfl, e⟩]
    · rw [if_neg e, if_neg fun q => e q.2]
      exact h4 j hj
theorem ds_gets0 {idx : Nat} (hc : iv_cd mi pc = some (.getstatic idx)) (hp : pc + 3 = p) (hs : iv_ss (iv_kf mi) idx = some 0) (E : dE z mi d p al (.int (Int32.ofInt 1) :: r) (s, δ) v T) : dE z mi d pc al r (s, δ) v T := ds_gets (k := 0) hc hp hs rfl (by
  rw [show iv_sv 0 = .int (Int32.ofInt 1) by decide +kernel]
  exact E)
theorem ds_getsr {idx k n : Nat} (hc : iv_cd mi pc = some (.getstatic idx)) (hp : pc + 3 = p) (hs : iv_ss (iv_kf mi) idx = some k) (hk : Nat.blt k 4 = true) (he : iv_sv k = .retAddr n) (E : dE z mi d p al (.retAddr n :: r) (s, δ) v T) : dE z mi d pc al r (s, δ) v T := ds_gets hc hp hs hk (by
  rw [he]
  exact E)
theorem ds_dup2l {w : Value} (hc : iv_cd mi pc = some .dup2) (hp : pc + 1 = p) (hx : w.category = 2) (E : dE z mi d p al (w :: w :: r) (s, δ) v T) : dE z mi d pc al (w :: r) (s, δ) v T := by
  subst hp
  exact dx_p hc rfl (fun _ => rfl) (fun _ => (by show (if w.category = 2 then _ else _) = _; rw [if_pos hx])) E
/-- new cells -/
def dd0 (c j : Nat) : Value := match dty (iv_ft c j) with
  | 0 => .int 0
  | 1 => .long 0
  | _ => .null
def dchk (ci : Nat) : Bool := Nat.beq (iv_df ci).length (dnf ci) && Nat.ble (dnf ci) 1000 && (List.range (dnf ci)).all (fun j => decide ((iv_df ci)[j]? = some (dd0 ci j)))
theorem dal_app {h : iv_H} {t m : Nat} {c : iv_C} (R : dR (s, δ) h) (hm : m ≤ 60000000) (hc : dc (δ.al t m) δ.n c) : dR (s, δ.al t m) (h ++ [c]) := by
  refine dR_app R rfl (fun a (ha : a < δ.n) => ⟨fun b => if_neg (by omega), fun b => if_neg (by omega), if_neg (by omega)⟩) (fun j c' hj => ?_)
  have h0 : j < 1 := (List.getElem?_eq_some_iff.mp hj).1
  rw [show j = 0 by omega] at hj ⊢
  cases hj
  refine ⟨?_, hc⟩
  show (if δ.n = δ.n then (t, m) else _).2 ≤ _
  rw [if_pos rfl]
  exact hm
theorem ds_new {idx ci : Nat} (hc : iv_cd mi pc = some (.new idx)) (hp : pc + 3 = p) (hn : iv_nc (iv_kf mi) idx = some ci) (hk : dchk ci = true) (E : dE z mi d p al (.ref δ.n :: r) (s, δ.al (100 + ci) (dnf ci)) v T) : dE z mi d pc al r (s, δ) v T := by
  subst hp
  simp only [dchk, Bool.and_eq_true] at hk
  obtain ⟨⟨k1, k2⟩, k3⟩ := hk
  have k1 := Nat.eq_of_beq_eq_true k1
  have k2 := Nat.le_of_ble_eq_true k2
  refine dx_a hc rfl (fun _ => rfl) (fun h R => ⟨.inl (ci, iv_df ci), ?_, dal_app R (by omega) ⟨?_, fun j hj => ?_⟩⟩) E
  · show (iv_nc (iv_kf mi) idx).bind _ = _
    rw [hn]
    show some (pc + 3, al, Value.ref h.length :: r, _) = _
    rw [R.1]
  · show (if δ.n = δ.n then (100 + ci, dnf ci) else _) = _
    rw [if_pos rfl, k1]
  · have hj' : j < dnf ci := by rw [← k1]; exact hj
    have e := of_decide_eq_true (List.all_eq_true.mp k3 j (List.mem_range.mpr hj'))
    rw [e]
    unfold dd0 dv
    show some (match dty (iv_ft ci j) with | 0 => _ | 1 => _ | _ => _) = some (match dty (iv_ft ci j) with | 0 => Value.int (Int32.ofInt (if δ.n = δ.n then 0 else _)) | 1 => Value.long (Int64.ofInt (if δ.n = δ.n then 0 else _)) | _ => match (if δ.n = δ.n then none else _) with | none => Value.null | some q => .ref q)
    rw [if_pos rfl, if_pos rfl]
    rfl
theorem ds_newarray {a : Jvm.ClassFile.ArrayType} {t : Nat} {m : Int} (hc : iv_cd mi pc = some (.newarray a)) (hp : pc + 2 = p) (ht : iv_tn a = t) (h4 : Nat.blt t 4 = true) (hm : 0 ≤ m ∧ m ≤ 60000000) (E : dE z mi d p al (.ref δ.n :: r) (s, δ.al t m.toNat) v T) : dE z mi d pc al (.int (Int32.ofInt m) :: r) (s, δ) v T := by
  subst hp ht
  have h4 : iv_tn a < 4 := Nat.le_of_ble_eq_true h4
  have e : (Int32.ofInt m).toInt = m := ga_ti ⟨by omega, by omega⟩
  have e2 : (Int32.ofInt m).toNatClampNeg = m.toNat := by
    show (Int32.ofInt m).toInt.toNat = _
    rw [e]
  refine dx_a hc rfl (fun _ => rfl) (fun h R => ⟨.inr (iv_tn a, iv_a0 (iv_tn a) m.toNat), ?_, dal_app R (by omega) ?_⟩) E
  · show (if 0 ≤ Int32.ofInt m ∧ (Int32.ofInt m).toNatClampNeg ≤ 60000000 ∧ iv_tn a < 4 then some (pc + 2, al, Value.ref h.length :: r, some (none, Sum.inr (iv_tn a, iv_a0 (iv_tn a) (Int32.ofInt m).toNatClampNeg))) else none) = _
    rw [e2, if_pos ⟨by rw [Int32.le_iff_toInt_le, e]; exact hm.1, by omega, h4⟩, R.1]
  · generalize iv_tn a = t at h4
    have hs : (δ.al t m.toNat).sh δ.n = (t, m.toNat) := if_pos rfl
    have hi : ∀ j, (δ.al t m.toNat).I δ.n j = 0 := fun j => if_pos rfl
    unfold iv_a0
    by_cases h1 : t = 1
    · rw [if_pos h1]
      exact ⟨hs, h1, fun j _ => by rw [hi]; rfl⟩
    · rw [if_neg h1]
      exact ⟨hs, by omega, fun j _ => by rw [hi]; rfl⟩
theorem ds_mna {idx : Nat} {n k : Int} (hc : iv_cd mi pc = some (.multianewarray idx 2)) (hp : pc + 4 = p) (hx : (iv_mn (iv_kf mi) idx).isSome = true) (hn : 0 ≤ n ∧ n ≤ 1000) (hk : 0 ≤ k ∧ k ≤ 1000) (E : dE z mi d p al (.ref δ.n :: r) (s, δ.mu n.toNat k.toNat) v T) : dE z mi d pc al (.int (Int32.ofInt k) :: .int (Int32.ofInt n) :: r) (s, δ) v T := by
  subst hp
  have en : (Int32.ofInt n).toInt = n := ga_ti ⟨by omega, by omega⟩
  have ek : (Int32.ofInt k).toInt = k := ga_ti ⟨by omega, by omega⟩
  have en2 : (Int32.ofInt n).toNatClampNeg = n.toNat := by show (Int32.ofInt n).toInt.toNat = _; rw [en]
  have ek2 : (Int32.ofInt k).toNatClampNeg = k.toNat := by show (Int32.ofInt k).toInt.toNat = _; rw [ek]
  intro h R
  have R2 : dR (s, δ.mu n.toNat k.toNat) (iv_muh h n.toNat k.toNat) := by
    unfold iv_muh
    refine dR_app R ?_ (fun a (ha : a < δ.n) => ⟨fun b => if_neg (by omega), fun b => ?_, ?_⟩) (fun j c' hj => ?_)
    · show δ.n + 1 + n.toNat = δ.n + (List.length _)
      rw [List.length_cons, List.length_replicate]
      omega
    · show (if a = δ.n then _ else if δ.n < a then none else δ.P a b) = _
      rw [if_neg (by omega), if_neg (by omega)]
    · show (if a = δ.n then _ else if δ.n < a then _ else δ.sh a) = _
      rw [if_neg (by omega), if_neg (by omega)]
    · cases j with
      | zero =>
        cases hj
        have hs : (δ.mu n.toNat k.toNat).sh (δ.n + 0) = (6, n.toNat) := if_pos rfl
        refine ⟨by show ((δ.mu n.toNat k.toNat).sh (δ.n + 0)).2 ≤ _; rw [hs]; show n.toNat ≤ _; omega, hs, by omega, by omega, fun i hi => ?_⟩
        show iv_muo n.toNat h.length i = (if δ.n + 0 = δ.n then (if i < n.toNat then some (δ.n + 1 + i) else none) else _)
        rw [if_pos (Nat.add_zero δ.n)]
        unfold iv_muo
        rw [R.1]
      | succ j =>
        rw [List.getElem?_cons_succ, List.getElem?_replicate] at hj
        split at hj
        · cases hj
          have hs : (δ.mu n.toNat k.toNat).sh (δ.n + (j + 1)) = (0, k.toNat) := by
            show (if δ.n + (j + 1) = δ.n then _ else if δ.n < δ.n + (j + 1) then (0, k.toNat) else _) = _
            rw [if_neg (by omega), if_pos (by omega)]
          refine ⟨by show ((δ.mu n.toNat k.toNat).sh (δ.n + (j + 1))).2 ≤ _; rw [hs]; show k.toNat ≤ _; omega, hs, Or.inl rfl, fun i hi => ?_⟩
          show (0 : Int32) = Int32.ofInt (if δ.n ≤ δ.n + (j + 1) then 0 else _)
          rw [if_pos (by omega)]
          rfl
        · cases hj
  obtain ⟨m, h', e, R'⟩ := E _ R2
  refine ⟨m + 1, h', ?_, R'⟩
  unfold iv_run
  dsimp only
  rw [hc]
  dsimp only
  rw [if_neg (by rw [show iv_isr (.multianewarray idx 2) = false from rfl]; decide)]
  show (match iv_mu mi (.multianewarray idx 2) (.int (Int32.ofInt k) :: .int (Int32.ofInt n) :: r) h with
    | some c => iv_run z m d mi (pc + 4, al, c.1, c.2)
    | none => _) = _
  have g : iv_mu mi (.multianewarray idx 2) (.int (Int32.ofInt k) :: .int (Int32.ofInt n) :: r) h = some (.ref δ.n :: r, iv_muh h n.toNat k.toNat) := by
    show (if (iv_mn (iv_kf mi) idx).isSome = true then (if 0 ≤ Int32.ofInt n ∧ 0 ≤ Int32.ofInt k ∧ (Int32.ofInt n).toNatClampNeg ≤ 1000 ∧ (Int32.ofInt k).toNatClampNeg ≤ 1000 then some ((Value.ref h.length :: r, iv_muh h (Int32.ofInt n).toNatClampNeg (Int32.ofInt k).toNatClampNeg) : List Value × iv_H) else none) else none) = _
    rw [if_pos hx, en2, ek2, if_pos ⟨by rw [Int32.le_iff_toInt_le, en]; exact hn.1, by rw [Int32.le_iff_toInt_le, ek]; exact hk.1, by omega, by omega⟩, R.1]
  rw [g]
  exact e
theorem ds_clone {idx k t : Nat} (hc : iv_cd mi pc = some (.invokevirtual idx)) (hp : pc + 3 = p) (ht : (Nat.beq t 0 || Nat.beq t 3) = true) (hv : (decide (iv_cv (iv_kf mi) idx = some t) && (iv_mt (iv_kf mi) idx).isNone) = true) (hr : Nat.ble (r.map fun v => v.category).sum 8 = true) (hk : dA δ t k) (E : dE z mi d p al (.ref δ.n :: r) (s, δ.cl k) v T) : dE z mi d pc al (.ref k :: r) (s, δ) v T := by
  subst hp
  simp only [Bool.and_eq_true, decide_eq_true_eq] at hv
  have ht2 : t = 0 ∨ t = 2 ∨ t = 3 := by
    rcases Bool.or_eq_true_iff.mp ht with e | e
    · exact Or.inl (Nat.eq_of_beq_eq_true e)
    · exact Or.inr (Or.inr (Nat.eq_of_beq_eq_true e))
  have q3 : iv_mt (iv_kf mi) idx = none := Option.isNone_iff_eq_none.mp hv.2
  refine dx_a hc rfl (fun h => ?_) (fun h R => ?_) E
  · unfold iv_ca
    show (match iv_mt (iv_kf mi) idx with
      | none => none
      | some mj => _) = none
    rw [q3]
  · obtain ⟨n, f, h1, h2, h3, h4⟩ := dR_i R hk ht2
    refine ⟨.inr (t, n, .inl f), ?_, ?_⟩
    · show ((iv_cv (iv_kf mi) idx).bind fun t => iv_r (.ref k :: r) fun k r => _) = _
      rw [hv.1]
      show ((iv_ai h k).bind _) = _
      rw [fx_ai h1]
      show (if t = t ∧ n ≤ 60000000 ∧ (r.map fun v => v.category).sum ≤ 8 then some (pc + 3, al, Value.ref h.length :: r, some (none, Sum.inr (t, n, Sum.inl f))) else none) = _
      rw [if_pos ⟨rfl, h3, Nat.le_of_ble_eq_true hr⟩, R.1]
    · refine dR_app R rfl (fun a (ha : a < δ.n) => ⟨fun b => if_neg (by omega), fun b => if_neg (by omega), if_neg (by omega)⟩) (fun j c' hj => ?_)
      have h0 : j < 1 := (List.getElem?_eq_some_iff.mp hj).1
      rw [show j = 0 by omega] at hj ⊢
      cases hj
      have hs : (δ.cl k).sh (δ.n + 0) = (t, n) := (if_pos rfl).trans h2
      refine ⟨by show ((δ.cl k).sh (δ.n + 0)).2 ≤ _; rw [hs]; exact h3, hs, ht2, fun i hi => ?_⟩
      show f i = Int32.ofInt (if δ.n + 0 = δ.n then δ.I k i else _)
      rw [if_pos (Nat.add_zero δ.n)]
      exact h4 i hi
/-- arraycopy of bytes -/
theorem dcpy {h : iv_H} {b : Nat} {nb sp dp m : Nat} {f g : Nat → Int32} {ε : dS} (R : dR (s, δ) h) (hb : 215 ≤ b) (h2 : δ.sh b = (3, nb)) (h4 : ∀ j, j < nb → g j = Int32.ofInt (δ.I b j)) (hn : ε.n = δ.n) (hs : ε.sh = δ.sh) (hp : ε.P = δ.P) (h5 : ∀ k j, k ≠ b → ε.I k j = δ.I k j) (h6 : ∀ j, j < nb → va_cpy f g sp dp m j = Int32.ofInt (ε.I b j)) : dR (s, ε) (h.set b (.inr (3, nb, .inl (va_cpy f g sp dp m)))) :=
  dR_set R hb hn hs (fun _ => ⟨(congrFun hs b).trans h2, Or.inr (Or.inr rfl), h6⟩) fun a c' ha hc => dc_eq (fun j => h5 a j ha) (fun j => congrFun (congrFun hp a) j) (congrFun hs a) hc
theorem dcpR {na nb : Nat} {f g : Nat → Int32} {sp dp m : Int} (h1 : 0 ≤ sp) (h2 : 0 ≤ dp) (h3 : 0 ≤ m) (h4 : sp + m ≤ (na : Int)) (h5 : dp + m ≤ (nb : Int)) (ha : na ≤ 60000000) (hb : nb ≤ 60000000) (hr : Nat.ble (r.map fun v => v.category).sum 8 = true) : iv_cpR (3, na, f) (3, nb, g) (Int32.ofInt sp) (Int32.ofInt dp) (Int32.ofInt m) r = true ∧ (Int32.ofInt sp).toNatClampNeg = sp.toNat ∧ (Int32.ofInt dp).toNatClampNeg = dp.toNat ∧ (Int32.ofInt m).toNatClampNeg = m.toNat := by
  have e : ∀ x : Int, 0 ≤ x → x ≤ 60000000 → (0 : Int32) ≤ Int32.ofInt x ∧ (Int32.ofInt x).toNatClampNeg = x.toNat := by
    intro x h0 hx
    have e : (Int32.ofInt x).toInt = x := ga_ti ⟨by omega, by omega⟩
    exact ⟨by rw [Int32.le_iff_toInt_le, e]; exact h0, by show (Int32.ofInt x).toInt.toNat = _; rw [e]⟩
  obtain ⟨s1, s2⟩ := e sp h1 (by omega)
  obtain ⟨d1, d2⟩ := e dp h2 (by omega)
  obtain ⟨m1, m2⟩ := e m h3 (by omega)
  refine ⟨?_, s2, d2, m2⟩
  simp only [iv_cpR, iv_ck8, Bool.and_eq_true, decide_eq_true_eq]
  refine ⟨s1, d1, m1, ?_, ?_, Nat.le_of_ble_eq_true hr⟩
  · rw [s2, m2]; show sp.toNat + m.toNat ≤ na; omega
  · rw [d2, m2]; show dp.toNat + m.toNat ≤ nb; omega
theorem ds_cpy {idx a b : Nat} {sp dp m : Int} (hc : iv_cd mi pc = some (.invokestatic idx)) (hp : pc + 3 = p) (hq : (iv_cp (iv_kf mi) idx && (iv_mt (iv_kf mi) idx).isNone) = true) (hr : Nat.ble (r.map fun v => v.category).sum 8 = true) (ha : dA δ 3 a) (hb : dA δ 3 b) (hs : 0 ≤ sp ∧ 0 ≤ dp ∧ 0 ≤ m ∧ sp + m ≤ ((δ.sh a).2 : Int) ∧ dp + m ≤ ((δ.sh b).2 : Int)) (E : dE z mi d p al r (s, δ.cp a sp.toNat b dp.toNat m.toNat) v T) : dE z mi d pc al (.int (Int32.ofInt m) :: .int (Int32.ofInt dp) :: .ref b :: .int (Int32.ofInt sp) :: .ref a :: r) (s, δ) v T := by
  subst hp
  simp only [Bool.and_eq_true] at hq
  obtain ⟨q1, q2⟩ := hq
  have q3 : iv_mt (iv_kf mi) idx = none := Option.isNone_iff_eq_none.mp q2
  refine dx_s hc rfl (fun h => ?_) (fun h R => ?_) E
  · unfold iv_ca
    show (match iv_mt (iv_kf mi) idx with
      | none => none
      | some mj => _) = none
    rw [q3]
  · obtain ⟨na, f, a1, a2, a3, a4⟩ := dR_i R ha (Or.inr (Or.inr rfl))
    obtain ⟨nb, g, b1, b2, b3, b4⟩ := dR_i R hb (Or.inr (Or.inr rfl))
    rw [a2, b2] at hs
    obtain ⟨s1, s2, s3, s4, s5⟩ := hs
    obtain ⟨t1, t2, t3, t4⟩ := dcpR (f := f) (g := g) (r := r) s1 s2 s3 s4 s5 a3 b3 hr
    refine ⟨b, .inr (3, nb, .inl (va_cpy f g sp.toNat dp.toNat m.toNat)), _, ?_, b1, rfl, dcpy R hb.1 b2 b4 rfl rfl rfl (fun k j hk => if_neg fun q => hk q.1) (fun j hj => ?_)⟩
    · show (if iv_cp (iv_kf mi) idx = true then iv_cpy z pc al _ h else _) = _
      rw [if_pos q1]
      show ((iv_ai h a).bind fun q => (iv_ai h b).bind fun u => _) = _
      rw [fx_ai a1, fx_ai b1]
      show (if iv_cpR (3, na, f) (3, nb, g) (Int32.ofInt sp) (Int32.ofInt dp) (Int32.ofInt m) r = true ∧ ((iv_is 3 .int = true ∧ iv_is 3 .int = true) ∨ (iv_is 3 .byte = true ∧ iv_is 3 .byte = true)) then some (pc + 3, al, r, some (some b, Sum.inr (3, nb, Sum.inl (va_cpy f g (Int32.ofInt sp).toNatClampNeg (Int32.ofInt dp).toNatClampNeg (Int32.ofInt m).toNatClampNeg)))) else none) = _
      rw [if_pos ⟨t1, Or.inr ⟨rfl, rfl⟩⟩, t2, t3, t4]
    · show (if dp.toNat ≤ j ∧ j < dp.toNat + m.toNat then f (sp.toNat + (j - dp.toNat)) else g j) = Int32.ofInt (if b = b ∧ dp.toNat ≤ j ∧ j < dp.toNat + m.toNat then δ.I a (sp.toNat + (j - dp.toNat)) else δ.I b j)
      by_cases q : dp.toNat ≤ j ∧ j < dp.toNat + m.toNat
      · rw [if_pos q, if_pos ⟨rfl, q⟩]
        have s4' : sp + m ≤ (na : Int) := s4
        exact a4 _ (by omega)
      · rw [if_neg q, if_neg (fun u => q u.2)]
        exact b4 j hj
theorem ds_cpya {idx a b na : Nat} {f : Nat → Int32} {sp dp m : Int} (hc : iv_cd mi pc = some (.invokestatic idx)) (hp : pc + 3 = p) (hq : (iv_cp (iv_kf mi) idx && (iv_mt (iv_kf mi) idx).isNone) = true) (hr : Nat.ble (r.map fun v => v.category).sum 8 = true) (ha : iv_zi z a = some (3, na, f)) (hna : na ≤ 60000000) (hb : dA δ 3 b) (hs : 0 ≤ sp ∧ 0 ≤ dp ∧ 0 ≤ m ∧ sp + m ≤ (na : Int) ∧ dp + m ≤ ((δ.sh b).2 : Int)) (E : dE z mi d p al r (s, δ.cz f sp.toNat b dp.toNat m.toNat) v T) : dE z mi d pc al (.int (Int32.ofInt m) :: .int (Int32.ofInt dp) :: .ref b :: .int (Int32.ofInt sp) :: .retAddr a :: r) (s, δ) v T := by
  subst hp
  simp only [Bool.and_eq_true] at hq
  obtain ⟨q1, q2⟩ := hq
  have q3 : iv_mt (iv_kf mi) idx = none := Option.isNone_iff_eq_none.mp q2
  refine dx_s hc rfl (fun h => ?_) (fun h R => ?_) E
  · unfold iv_ca
    show (match iv_mt (iv_kf mi) idx with
      | none => none
      | some mj => _) = none
    rw [q3]
  · obtain ⟨nb, g, b1, b2, b3, b4⟩ := dR_i R hb (Or.inr (Or.inr rfl))
    rw [b2] at hs
    obtain ⟨s1, s2, s3, s4, s5⟩ := hs
    obtain ⟨t1, t2, t3, t4⟩ := dcpR (f := f) (g := g) (r := r) s1 s2 s3 s4 s5 hna b3 hr
    refine ⟨b, .inr (3, nb, .inl (va_cpy f g sp.toNat dp.toNat m.toNat)), _, ?_, b1, rfl, dcpy R hb.1 b2 b4 rfl rfl rfl (fun k j hk => if_neg fun q => hk q.1) (fun j hj => ?_)⟩
    · show (if iv_cp (iv_kf mi) idx = true then iv_cpy z pc al _ h else _) = _
      rw [if_pos q1]
      show ((iv_zi z a).bind fun q => (iv_ai h b).bind fun u => _) = _
      rw [ha, fx_ai b1]
      show (if iv_cpR (3, na, f) (3, nb, g) (Int32.ofInt sp) (Int32.ofInt dp) (Int32.ofInt m) r = true ∧ iv_is 3 .byte = true ∧ iv_is 3 .byte = true then some (pc + 3, al, r, some (some b, Sum.inr (3, nb, Sum.inl (va_cpy f g (Int32.ofInt sp).toNatClampNeg (Int32.ofInt dp).toNatClampNeg (Int32.ofInt m).toNatClampNeg)))) else none) = _
      rw [if_pos ⟨t1, rfl, rfl⟩, t2, t3, t4]
    · show (if dp.toNat ≤ j ∧ j < dp.toNat + m.toNat then f (sp.toNat + (j - dp.toNat)) else g j) = Int32.ofInt (if b = b ∧ dp.toNat ≤ j ∧ j < dp.toNat + m.toNat then (f (sp.toNat + (j - dp.toNat))).toInt else δ.I b j)
      by_cases q : dp.toNat ≤ j ∧ j < dp.toNat + m.toNat
      · rw [if_pos q, if_pos ⟨rfl, q⟩, Int32.ofInt_toInt]
      · rw [if_neg q, if_neg (fun u => q u.2)]
        exact b4 j hj
/-- returns -/
theorem ds_ret (hc : iv_cd mi pc = some .return_) (hr : iv_rt mi = none) : dE z mi d pc al [] (s, δ) none (s, δ) := dx_ret hc rfl (by show (if iv_rt mi = none then some none else none) = _; rw [if_pos hr])
theorem ds_iret {x : Int32} {ty : FieldType} (hc : iv_cd mi pc = some .ireturn) (hr : iv_rt mi = some ty) (ho : iv_ok ty (.int x) = true) : dE z mi d pc al [.int x] (s, δ) (some (Value.int x)) (s, δ) := dx_ret hc rfl (by
  show (if iv_ro (iv_rt mi) (Value.int x) = true then some (some (Value.int x)) else none) = _
  rw [hr, if_pos (show iv_ro (some ty) (Value.int x) = true from ho)])
theorem ds_lret {x : Int64} (hc : iv_cd mi pc = some .lreturn) (hr : iv_rt mi = some .long) : dE z mi d pc al [.long x] (s, δ) (some (Value.long x)) (s, δ) := dx_ret hc rfl (by
  show (if iv_ro (iv_rt mi) (Value.long x) = true then some (some (Value.long x)) else none) = _
  rw [hr, if_pos (show iv_ro (some .long) (Value.long x) = true from rfl)])
theorem ds_aret {x : Nat} (hc : iv_cd mi pc = some .areturn) (hr : iv_rq (iv_rt mi) = true) : dE z mi d pc al [.ref x] (s, δ) (some (Value.ref x)) (s, δ) := dx_ret hc rfl (by
  show (if iv_rq (iv_rt mi) = true then some (some (Value.ref x)) else none) = _
  rw [if_pos hr])
/-- casts -/
theorem ds_castA {idx k t : Nat} (hc : iv_cd mi pc = some (.checkcast idx)) (hp : pc + 3 = p) (hx : iv_ka (iv_kf mi) idx = some t) (ht : (Nat.beq t 0 || Nat.beq t 3) = true) (hk : dA δ t k) (E : dE z mi d p al (.ref k :: r) (s, δ) v T) : dE z mi d pc al (.ref k :: r) (s, δ) v T := by
  subst hp
  have ht2 : t = 0 ∨ t = 2 ∨ t = 3 := by
    rcases Bool.or_eq_true_iff.mp ht with e | e
    · exact Or.inl (Nat.eq_of_beq_eq_true e)
    · exact Or.inr (Or.inr (Nat.eq_of_beq_eq_true e))
  refine dx_q hc rfl (fun _ => rfl) (fun h R => ?_) E
  obtain ⟨n, f, h1, h2, h3, h4⟩ := dR_i R hk ht2
  simp only [iv_op, iv_sem, iv_r]
  rw [hx]
  dsimp only
  rw [if_pos (by unfold iv_ao_; rw [h1]; exact decide_eq_true rfl)]
theorem ds_castO {idx k ci : Nat} (hc : iv_cd mi pc = some (.checkcast idx)) (hp : pc + 3 = p) (hx : iv_ka (iv_kf mi) idx = none) (hn : iv_nc (iv_kf mi) idx = some ci) (hk : dO δ k ci) (E : dE z mi d p al (.ref k :: r) (s, δ) v T) : dE z mi d pc al (.ref k :: r) (s, δ) v T := by
  subst hp
  refine dx_q hc rfl (fun _ => rfl) (fun h R => ?_) E
  obtain ⟨fs, h1, h2, h3⟩ := dR_o R hk
  simp only [iv_op, iv_sem, iv_r]
  rw [hx]
  dsimp only
  rw [hn]
  show (if iv_oc h k ci = true then _ else none) = _
  rw [if_pos (by unfold iv_oc; rw [h1]; exact decide_eq_true rfl)]
theorem ds_inst {idx k ci : Nat} (hc : iv_cd mi pc = some (.instanceof idx)) (hp : pc + 3 = p) (hn : iv_nc (iv_kf mi) idx = some ci) (hk : dO δ k ci) (E : dE z mi d p al (.int (Int32.ofInt 1) :: r) (s, δ) v T) : dE z mi d pc al (.ref k :: r) (s, δ) v T := by
  subst hp
  refine dx_q hc rfl (fun _ => rfl) (fun h R => ?_) E
  obtain ⟨fs, h1, h2, h3⟩ := dR_o R hk
  simp only [iv_op, iv_sem, iv_r]
  rw [hn]
  show (if iv_oc h k ci = true then _ else none) = _
  rw [if_pos (by unfold iv_oc; rw [h1]; exact decide_eq_true rfl)]
  rfl
/-- Object's constructor -/
theorem ds_oinit {idx k : Nat} (hc : iv_cd mi pc = some (.invokespecial idx)) (hp : pc + 3 = p) (hx : iv_oi (iv_kf mi) idx = true) (hr : Nat.ble (r.map fun v => v.category).sum 8 = true) (E : dE z mi d p al r (s, δ) v T) : dE z mi d pc al (.ref k :: r) (s, δ) v T := by
  subst hp
  have q3 := fr_oj hx
  refine dx_p hc rfl (fun h => ?_) (fun h => ?_) E
  · unfold iv_ca
    show (match iv_mt (iv_kf mi) idx with
      | none => none
      | some mj => _) = none
    rw [q3]
  · show (if iv_oi (iv_kf mi) idx = true then _ else none) = _
    rw [if_pos hx]
    show (if (r.map fun v => v.category).sum ≤ 8 then _ else none) = _
    rw [if_pos (Nat.le_of_ble_eq_true hr)]
/-- what is asked of a call's numbers: na arguments, mx locals of the callee, receivers of class ci; q: 0 invokevirtual, 1 invokespecial -/
def dkS (mi idx mj na mx : Nat) : Bool := decide (iv_mt (iv_kf mi) idx = some mj) && Nat.beq (iv_na mj) na && decide (iv_rc mj = none) && !(iv_ini mj) && Nat.beq (iv_mx mj) mx && (iv_kd (iv_kf mi) idx).isNone
def dkV (mi idx mj ci na mx q : Nat) : Bool := decide (iv_mt (iv_kf mi) idx = some mj) && Nat.beq (iv_na mj) na && decide (iv_rc mj = some ci) && Nat.beq (iv_mx mj) mx && iv_kk_ mi idx mj q
/-- a receiver: a dynamic object, one of the class's, a read-only one -/
def dRc (z : iv_Z) (ε : dS) (w : Value) (ci : Nat) : Prop := (∃ k, w = .ref k ∧ (dO ε k ci ∨ fx_oc k ci = true)) ∨ ∃ k, w = .retAddr k ∧ iv_zo z k ci = true
theorem dRc_c {h : iv_H} {st rest : List Value} {w : Value} {ci mj idx q na mx : Nat} {op : Jvm.ClassFile.Instr} (R : dR (s, δ) h) (hop : iv_cc op = some (q, idx)) (hq : ¬ q = 2) (hk : dkV mi idx mj ci na mx q = true) (ho : dRc z δ w ci) (hr : st.drop na = w :: rest) (hl : Nat.beq (st.take na).length na = true) (hx : Nat.ble ((iv_ex (st.take na).reverse).length + 1) mx = true) (hs : Nat.ble (rest.map fun v => v.category).sum 8 = true) : iv_ca z mi op st h = some (mj, w :: (st.take na).reverse, rest) := by
  simp only [dkV, Bool.and_eq_true, decide_eq_true_eq] at hk
  obtain ⟨⟨⟨⟨k1, k2⟩, k3⟩, k5⟩, k6⟩ := hk
  have k2 := Nat.eq_of_beq_eq_true k2
  have k5 := Nat.eq_of_beq_eq_true k5
  have hx' := Nat.le_of_ble_eq_true hx
  have hs' := Nat.le_of_ble_eq_true hs
  unfold iv_ca
  rw [hop]
  dsimp only
  rw [k1]
  dsimp only
  rw [k2, if_pos ⟨Nat.eq_of_beq_eq_true hl, by unfold iv_rx; rw [k3, k5]; show _ + 1 ≤ mx + 0; omega⟩, if_neg hq, k3]
  dsimp only
  rw [hr]
  rcases ho with ⟨k, rfl, ho⟩ | ⟨k, rfl, ho⟩
  · dsimp only
    have hoc : iv_oc h k ci = true := by
      rcases ho with ho | ho
      · obtain ⟨fs, g1, -⟩ := dR_o R ho
        unfold iv_oc
        rw [g1]
        exact decide_eq_true rfl
      · obtain ⟨fs, g1, -⟩ := fx_R_o R.2.2.1 ho
        have g2 : h[k]? = some (.inl (ci, fs)) := by
          rw [List.getElem?_take] at g1
          split at g1
          · exact g1
          · cases g1
        unfold iv_oc
        rw [g2]
        exact decide_eq_true rfl
    rw [if_pos ⟨hoc, hs', k6⟩]
  · dsimp only
    rw [if_pos ⟨ho, hs', k6⟩]
theorem ds_callS {idx mj na mx : Nat} {st args rest st2 : List Value} {al2 : iv_L} {u : Option Value} (hc : iv_cd mi pc = some (.invokestatic idx)) (hp : pc + 3 = p) (hk : dkS mi idx mj na mx = true) (ha : (st.take na).reverse = args) (hr : st.drop na = rest) (hl : Nat.beq (st.take na).length na = true) (hx : Nat.ble (iv_ex args).length mx = true) (hs : Nat.ble (rest.map fun v => v.category).sum 8 = true) (he : iv_ex args ++ List.replicate (mx - (iv_ex args).length) none = al2) (hd : 0 < d) (C : ∀ d', d = d' + 1 → dE z mj d' 0 al2 [] (s, δ) u S2) (h2 : u.toList ++ rest = st2) (E : dE z mi d p al st2 S2 v T) : dE z mi d pc al st (s, δ) v T := by
  subst hp ha hr he h2
  simp only [dkS, Bool.and_eq_true, decide_eq_true_eq, Bool.not_eq_true'] at hk
  obtain ⟨⟨⟨⟨⟨k1, k2⟩, k3⟩, k4⟩, k5⟩, k6⟩ := hk
  have k2 := Nat.eq_of_beq_eq_true k2
  have k5 := Nat.eq_of_beq_eq_true k5
  refine dx_call (mj := mj) (args := (st.take na).reverse) (rest := st.drop na) hc rfl (fun h R => ?_) hd (fun d' e => ?_) E
  · unfold iv_ca
    show (match iv_mt (iv_kf mi) idx with
      | none => none
      | some mj => _) = _
    rw [k1]
    dsimp only
    rw [k2, if_pos ⟨Nat.eq_of_beq_eq_true hl, by unfold iv_rx; rw [k3, k5]; have := Nat.le_of_ble_eq_true hx; show _ + 1 ≤ mx + 1; omega⟩, if_pos (show (2 : Nat) = 2 from rfl), if_pos ⟨k3, k4, Option.isNone_iff_eq_none.mp k6, Nat.le_of_ble_eq_true hs⟩]
  · have := C d' e
    unfold iv_en
    rw [k5]
    exact this
theorem ds_callV {idx mj ci na mx : Nat} {w : Value} {st args rest st2 : List Value} {al2 : iv_L} {u : Option Value} (hc : iv_cd mi pc = some (.invokevirtual idx)) (hp : pc + 3 = p) (hk : dkV mi idx mj ci na mx 0 = true) (ho : dRc z δ w ci) (ha : w :: (st.take na).reverse = args) (hr : st.drop na = w :: rest) (hl : Nat.beq (st.take na).length na = true) (hx : Nat.ble ((iv_ex (st.take na).reverse).length + 1) mx = true) (hs : Nat.ble (rest.map fun v => v.category).sum 8 = true) (he : iv_ex args ++ List.replicate (mx - (iv_ex args).length) none = al2) (hd : 0 < d) (C : ∀ d', d = d' + 1 → dE z mj d' 0 al2 [] (s, δ) u S2) (h2 : u.toList ++ rest = st2) (E : dE z mi d p al st2 S2 v T) : dE z mi d pc al st (s, δ) v T := by
  subst hp ha he h2
  refine dx_call (mj := mj) (args := w :: (st.take na).reverse) (rest := rest) hc rfl (fun h R => dRc_c R rfl (by decide) hk ho hr hl hx hs) hd (fun d' e => ?_) E
  have := C d' e
  simp only [dkV, Bool.and_eq_true, decide_eq_true_eq] at hk
  have k5 := Nat.eq_of_beq_eq_true hk.1.2
  unfold iv_en
  rw [k5]
  exact this
theorem ds_callP {idx mj ci na mx : Nat} {w : Value} {st args rest st2 : List Value} {al2 : iv_L} {u : Option Value} (hc : iv_cd mi pc = some (.invokespecial idx)) (hp : pc + 3 = p) (hk : dkV mi idx mj ci na mx 1 = true) (ho : dRc z δ w ci) (ha : w :: (st.take na).reverse = args) (hr : st.drop na = w :: rest) (hl : Nat.beq (st.take na).length na = true) (hx : Nat.ble ((iv_ex (st.take na).reverse).length + 1) mx = true) (hs : Nat.ble (rest.map fun v => v.category).sum 8 = true) (he : iv_ex args ++ List.replicate (mx - (iv_ex args).length) none = al2) (hd : 0 < d) (C : ∀ d', d = d' + 1 → dE z mj d' 0 al2 [] (s, δ) u S2) (h2 : u.toList ++ rest = st2) (E : dE z mi d p al st2 S2 v T) : dE z mi d pc al st (s, δ) v T := by
  subst hp ha he h2
  refine dx_call (mj := mj) (args := w :: (st.take na).reverse) (rest := rest) hc rfl (fun h R => dRc_c R rfl (by decide) hk ho hr hl hx hs) hd (fun d' e => ?_) E
  have := C d' e
  simp only [dkV, Bool.and_eq_true, decide_eq_true_eq] at hk
  have k5 := Nat.eq_of_beq_eq_true hk.1.2
  unfold iv_en
  rw [k5]
  exact this
end
