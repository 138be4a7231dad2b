/-! AN INTERPRETER over numbered cells: a reference is the number of a cell (its place in a list); the script is .retAddr 0. What it computes, the machine does (the soundness part). -/
abbrev iv_C : Type := (Nat × List Value) ⊕ (Nat × vp_A)
abbrev iv_H : Type := List iv_C
abbrev iv_L : Type := List (Option Value)
abbrev iv_S : Type := Nat × iv_L × List Value × iv_H
/-- what read-only things hold: 0 the script, 1 and 2 the digits' arrays, 3 and 5 the texts "," and "", 4 and 6 their bytes -/
abbrev iv_Z : Type := Nat → Option iv_C
section
variable {α : Type}
def iv_i (st : List Value) (f : Int32 → List Value → Option α) : Option α := match st with
  | .int x :: r => f x r
  | _ => none
def iv_j (st : List Value) (f : Int64 → List Value → Option α) : Option α := match st with
  | .long x :: r => f x r
  | _ => none
def iv_r (st : List Value) (f : Nat → List Value → Option α) : Option α := match st with
  | .ref x :: r => f x r
  | _ => none
def iv_1 (st : List Value) (f : Value → List Value → Option α) : Option α := match st with
  | x :: r => if x.category = 1 then f x r else none
  | _ => none
def iv_2 (st : List Value) (f : Value → List Value → Option α) : Option α := match st with
  | x :: r => if x.category = 2 then f x r else none
  | _ => none
theorem iv_i_s {st : List Value} {f : Int32 → List Value → Option α} {a : α} (h : iv_i st f = some a) : ∃ x r, st = .int x :: r ∧ f x r = some a := by
  unfold iv_i at h
  split at h
  · exact ⟨_, _, rfl, h⟩
  · cases h
theorem iv_j_s {st : List Value} {f : Int64 → List Value → Option α} {a : α} (h : iv_j st f = some a) : ∃ x r, st = .long x :: r ∧ f x r = some a := by
  unfold iv_j at h
  split at h
  · exact ⟨_, _, rfl, h⟩
  · cases h
theorem iv_r_s {st : List Value} {f : Nat → List Value → Option α} {a : α} (h : iv_r st f = some a) : ∃ x r, st = .ref x :: r ∧ f x r = some a := by
  unfold iv_r at h
  split at h
  · exact ⟨_, _, rfl, h⟩
  · cases h
theorem iv_1_s {st : List Value} {f : Value → List Value → Option α} {a : α} (h : iv_1 st f = some a) : ∃ x r, st = x :: r ∧ x.category = 1 ∧ f x r = some a := by
  unfold iv_1 at h
  split at h
  · split at h
    · exact ⟨_, _, rfl, by assumption, h⟩
    · cases h
  · cases h
theorem iv_2_s {st : List Value} {f : Value → List Value → Option α} {a : α} (h : iv_2 st f = some a) : ∃ x r, st = x :: r ∧ x.category = 2 ∧ f x r = some a := by
  unfold iv_2 at h
  split at h
  · split at h
    · exact ⟨_, _, rfl, by assumption, h⟩
    · cases h
  · cases h
/-- locals -/
def iv_li (al : iv_L) (i : Nat) (f : Int32 → Option α) : Option α := match al[i]? with
  | some (some (.int x)) => f x
  | _ => none
def iv_lj (al : iv_L) (i : Nat) (f : Int64 → Option α) : Option α := match al[i]? with
  | some (some (.long x)) => f x
  | _ => none
def iv_la (al : iv_L) (i : Nat) (f : Value → Option α) : Option α := match al[i]? with
  | some (some (.ref x)) => f (.ref x)
  | some (some (.retAddr x)) => f (.retAddr x)
  | _ => none
theorem iv_li_s {al : iv_L} {i : Nat} {f : Int32 → Option α} {a : α} (h : iv_li al i f = some a) : ∃ x, al[i]? = some (some (.int x)) ∧ f x = some a := by
  unfold iv_li at h
  split at h
  · exact ⟨_, by assumption, h⟩
  · cases h
theorem iv_lj_s {al : iv_L} {i : Nat} {f : Int64 → Option α} {a : α} (h : iv_lj al i f = some a) : ∃ x, al[i]? = some (some (.long x)) ∧ f x = some a := by
  unfold iv_lj at h
  split at h
  · exact ⟨_, by assumption, h⟩
  · cases h
theorem iv_la_s {al : iv_L} {i : Nat} {f : Value → Option α} {a : α} (h : iv_la al i f = some a) : ∃ v, al[i]? = some (some v) ∧ ((∃ k, v = .ref k) ∨ ∃ k, v = .retAddr k) ∧ f v = some a := by
  unfold iv_la at h
  split at h
  · exact ⟨_, by assumption, Or.inl ⟨_, rfl⟩, h⟩
  · exact ⟨_, by assumption, Or.inr ⟨_, rfl⟩, h⟩
  · cases h
end
def iv_k (al : iv_L) (i : Nat) : iv_L := match i with
  | 0 => al
  | j + 1 => match al[j]? with
    | some (some w) => if w.category = 2 then al.set j none else al
    | _ => al
def iv_s1 (al : iv_L) (i : Nat) (v : Value) : iv_L := (iv_k al i).set i (some v)
def iv_s2 (al : iv_L) (i : Nat) (v : Value) : iv_L := ((iv_k al i).set (i + 1) none).set i (some v)
def iv_tg (pc : Nat) (off : Int) : Option Nat := if 0 ≤ (pc : Int) + off then some ((pc : Int) + off).toNat else none
theorem iv_tg_s {pc : Nat} {off : Int} {t : Nat} (h : iv_tg pc off = some t) : (pc : Int) + off = (t : Int) := by
  unfold iv_tg at h
  split at h
  · cases h; omega
  · cases h
/-- slots of a cell, of a heap -/
def iv_cz (c : iv_C) : Nat := match c with
  | .inl o => o.2.length
  | .inr a => a.2.1
def iv_sz : iv_H → Nat
  | [] => 0
  | c :: h => iv_cz c + iv_sz h
/-- what a field of that type takes as it is -/
def iv_ok (ty : FieldType) (v : Value) : Bool := match ty, v with
  | .int, .int _ => true
  | .long, .long _ => true
  | .boolean, .int x => decide (x = 0) || decide (x = 1)
  | .byte, .int x => decide (x.toInt8.toInt32 = x)
  | .char, .int x => decide (x.toUInt32.toUInt16.toUInt32.toInt32 = x) && (decide (0 ≤ x) && decide (x ≤ 65535))
  | .object _, .ref _ => true
  | .array _, .ref _ => true
  | _, _ => false
/-- heap accesses -/
def iv_gf (mi idx : Nat) (h : iv_H) (k : Nat) : Option Value := match iv_fd (iv_kf mi) idx with
  | some q => match h[k]? with
    | some (.inl o) => if o.1 = q.1 then o.2[q.2]? else none
    | _ => none
  | none => none
def iv_pf (mi idx : Nat) (h : iv_H) (k : Nat) (v : Value) : Option (Option Nat × iv_C) := match iv_fd (iv_kf mi) idx with
  | some q => match h[k]? with
    | some (.inl o) => if o.1 = q.1 ∧ q.2 < o.2.length ∧ iv_ok (iv_ft q.1 q.2) v = true ∧ (iv_fi q.1 q.2 = false ∨ (iv_ini mi = true ∧ iv_ow q.1 = iv_kf mi ∧ iv_fn (iv_kf mi) idx = none)) then some (some k, .inl (o.1, o.2.set q.2 v)) else none
    | _ => none
  | none => none
/-- an array of ints (or small types) at k: type, length, contents -/
def iv_ai (h : iv_H) (k : Nat) : Option (Nat × Nat × (Nat → Int32)) := match h[k]? with
  | some (.inr (t, n, .inl f)) => some (t, n, f)
  | _ => none
def iv_aj (h : iv_H) (k : Nat) : Option (Nat × Nat × (Nat → Int64)) := match h[k]? with
  | some (.inr (t, n, .inr (.inl f))) => some (t, n, f)
  | _ => none
def iv_aq (h : iv_H) (k : Nat) : Option (Nat × Nat × (Nat → Option Nat)) := match h[k]? with
  | some (.inr (t, n, .inr (.inr (.inr (.inr f))))) => some (t, n, f)
  | _ => none
def iv_in (i : Int32) (n : Nat) : Bool := decide (0 ≤ i) && decide (i.toNatClampNeg < n)
/-- types of arrays: iv_ty -/
def iv_is (t : Nat) (ty : FieldType) : Bool := decide (iv_ty[t]? = some ty)
def iv_tn (at_ : Jvm.ClassFile.ArrayType) : Nat := match at_ with
  | .int => 0
  | .long => 1
  | .boolean => 2
  | .byte => 3
  | _ => 99
def iv_a0 (t n : Nat) : vp_A := if t = 1 then (n, .inr (.inl (fun _ => 0))) else (n, .inl (fun _ => 0))
/-- a read-only array's numbers, an object's field, its class -/
def iv_zi (z : iv_Z) (k : Nat) : Option (Nat × Nat × (Nat → Int32)) := match z k with
  | some (.inr (t, n, .inl f)) => some (t, n, f)
  | _ => none
def iv_zf (z : iv_Z) (mi idx k : Nat) : Option Value := match iv_fd (iv_kf mi) idx with
  | some q => match z k with
    | some (.inl o) => if o.1 = q.1 ∧ iv_fn (iv_kf mi) idx = none then o.2[q.2]? else none
    | _ => none
  | none => none
def iv_zo (z : iv_Z) (k ci : Nat) : Bool := match z k with
  | some (.inl o) => decide (o.1 = ci)
  | _ => false
theorem iv_zi_s {z : iv_Z} {k : Nat} {q : Nat × Nat × (Nat → Int32)} (e : iv_zi z k = some q) : z k = some (.inr (q.1, q.2.1, .inl q.2.2)) := by
  unfold iv_zi at e
  split at e
  · cases e; assumption
  · cases e
theorem iv_zf_s {z : iv_Z} {mi idx k : Nat} {v : Value} (e : iv_zf z mi idx k = some v) : ∃ ci j fs, iv_fd (iv_kf mi) idx = some (ci, j) ∧ z k = some (.inl (ci, fs)) ∧ fs[j]? = some v := by
  unfold iv_zf at e
  split at e
  · rename_i q hq
    split at e
    · rename_i o ho
      split at e
      · rename_i hc
        obtain ⟨ci, j⟩ := q
        obtain ⟨c1, fs⟩ := o
        dsimp only at hc e
        obtain ⟨hc, -⟩ := hc
        subst hc
        exact ⟨c1, j, fs, hq, ho, e⟩
      · cases e
    · cases e
  · cases e
theorem iv_zo_s {z : iv_Z} {k ci : Nat} (e : iv_zo z k ci = true) : ∃ fs, z k = some (.inl (ci, fs)) := by
  unfold iv_zo at e
  split at e
  · rename_i o ho
    have := of_decide_eq_true e
    subst this
    exact ⟨o.2, ho⟩
  · cases e
def iv_oc (h : iv_H) (b ci : Nat) : Bool := match h[b]? with
  | some (.inl o) => decide (o.1 = ci)
  | _ => false
/-- an array of that type -/
def iv_ao_ (h : iv_H) (b t : Nat) : Bool := match h[b]? with
  | some (.inr a) => decide (a.1 = t)
  | _ => false
