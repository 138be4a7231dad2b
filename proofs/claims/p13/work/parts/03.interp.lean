section
/-! AN INTERPRETER over numbered cells: a reference is the number of a cell (its place in a list); the script is .retAddr 0. What it computes, the machine does (the soundness part). -/
abbrev iv_C : Type := (Nat × List Value) ⊕ (Nat × vp_A)
abbrev iv_H : Type := List iv_C
abbrev iv_L : Type := List (Option Value)
abbrev iv_S : Type := Nat × iv_L × List Value × iv_H
/-- the script: its length and numbers; none: no script in sight -/
abbrev iv_Z : Type := Option (Nat × (Nat → Int32))
section
variable {α : Type}
def iv_i (st : List Value) (f : Int32 → List Value → Option α) : Option α := match st with
  | .int x :: r => f x r
  | _ => none
def iv_j (st : List Value) (f : Int64 → List Value → Option α) : Option α := match st with
  | .long x :: r => f x r
  | _ => none
def iv_r (st : List Value) (f : Nat → List Value → Option α) : Option α := match st with
  | .ref x :: r => f x r
  | _ => none
def iv_1 (st : List Value) (f : Value → List Value → Option α) : Option α := match st with
  | x :: r => if x.category = 1 then f x r else none
  | _ => none
def iv_2 (st : List Value) (f : Value → List Value → Option α) : Option α := match st with
  | x :: r => if x.category = 2 then f x r else none
  | _ => none
theorem iv_i_s {st : List Value} {f : Int32 → List Value → Option α} {a : α} (h : iv_i st f = some a) : ∃ x r, st = .int x :: r ∧ f x r = some a := by
  unfold iv_i at h
  split at h
  · exact ⟨_, _, rfl, h⟩
  · cases h
theorem iv_j_s {st : List Value} {f : Int64 → List Value → Option α} {a : α} (h : iv_j st f = some a) : ∃ x r, st = .long x :: r ∧ f x r = some a := by
  unfold iv_j at h
  split at h
  · exact ⟨_, _, rfl, h⟩
  · cases h
theorem iv_r_s {st : List Value} {f : Nat → List Value → Option α} {a : α} (h : iv_r st f = some a) : ∃ x r, st = .ref x :: r ∧ f x r = some a := by
  unfold iv_r at h
  split at h
  · exact ⟨_, _, rfl, h⟩
  · cases h
theorem iv_1_s {st : List Value} {f : Value → List Value → Option α} {a : α} (h : iv_1 st f = some a) : ∃ x r, st = x :: r ∧ x.category = 1 ∧ f x r = some a := by
  unfold iv_1 at h
  split at h
  · split at h
    · exact ⟨_, _, rfl, by assumption, h⟩
    · cases h
  · cases h
theorem iv_2_s {st : List Value} {f : Value → List Value → Option α} {a : α} (h : iv_2 st f = some a) : ∃ x r, st = x :: r ∧ x.category = 2 ∧ f x r = some a := by
  unfold iv_2 at h
  split at h
  · split at h
    · exact ⟨_, _, rfl, by assumption, h⟩
    · cases h
  · cases h
/-- locals -/
def iv_li (al : iv_L) (i : Nat) (f : Int32 → Option α) : Option α := match al[i]? with
  | some (some (.int x)) => f x
  | _ => none
def iv_lj (al : iv_L) (i : Nat) (f : Int64 → Option α) : Option α := match al[i]? with
  | some (some (.long x)) => f x
  | _ => none
def iv_la (al : iv_L) (i : Nat) (f : Value → Option α) : Option α := match al[i]? with
  | some (some (.ref x)) => f (.ref x)
  | some (some (.retAddr x)) => f (.retAddr x)
  | _ => none
theorem iv_li_s {al : iv_L} {i : Nat} {f : Int32 → Option α} {a : α} (h : iv_li al i f = some a) : ∃ x, al[i]? = some (some (.int x)) ∧ f x = some a := by
  unfold iv_li at h
  split at h
  · exact ⟨_, by assumption, h⟩
  · cases h
theorem iv_lj_s {al : iv_L} {i : Nat} {f : Int64 → Option α} {a : α} (h : iv_lj al i f = some a) : ∃ x, al[i]? = some (some (.long x)) ∧ f x = some a := by
  unfold iv_lj at h
  split at h
  · exact ⟨_, by assumption, h⟩
  · cases h
theorem iv_la_s {al : iv_L} {i : Nat} {f : Value → Option α} {a : α} (h : iv_la al i f = some a) : ∃ v, al[i]? = some (some v) ∧ ((∃ k, v = .ref k) ∨ ∃ k, v = .retAddr k) ∧ f v = some a := by
  unfold iv_la at h
  split at h
  · exact ⟨_, by assumption, Or.inl ⟨_, rfl⟩, h⟩
  · exact ⟨_, by assumption, Or.inr ⟨_, rfl⟩, h⟩
  · cases h
end
def iv_k (al : iv_L) (i : Nat) : iv_L := match i with
  | 0 => al
  | j + 1 => match al[j]? with
    | some (some w) => if w.category = 2 then al.set j none else al
    | _ => al
def iv_s1 (al : iv_L) (i : Nat) (v : Value) : iv_L := (iv_k al i).set i (some v)
def iv_s2 (al : iv_L) (i : Nat) (v : Value) : iv_L := ((iv_k al i).set (i + 1) none).set i (some v)
def iv_tg (pc : Nat) (off : Int) : Option Nat := if 0 ≤ (pc : Int) + off then some ((pc : Int) + off).toNat else none
theorem iv_tg_s {pc : Nat} {off : Int} {t : Nat} (h : iv_tg pc off = some t) : (pc : Int) + off = (t : Int) := by
  unfold iv_tg at h
  split at h
  · cases h; omega
  · cases h
/-- slots of a cell, of a heap -/
def iv_cz (c : iv_C) : Nat := match c with
  | .inl o => o.2.length
  | .inr a => a.2.1
def iv_sz : iv_H → Nat
  | [] => 0
  | c :: h => iv_cz c + iv_sz h
/-- what a field of that type takes as it is -/
def iv_ok (ty : FieldType) (v : Value) : Bool := match ty, v with
  | .int, .int _ => true
  | .long, .long _ => true
  | .boolean, .int x => decide (x = 0) || decide (x = 1)
  | .object _, .ref _ => true
  | .array _, .ref _ => true
  | _, _ => false
/-- heap accesses -/
def iv_gf (mi idx : Nat) (h : iv_H) (k : Nat) : Option Value := match iv_fd (iv_kf mi) idx with
  | some q => match h[k]? with
    | some (.inl o) => if o.1 = q.1 then o.2[q.2]? else none
    | _ => none
  | none => none
def iv_pf (mi idx : Nat) (h : iv_H) (k : Nat) (v : Value) : Option (Option Nat × iv_C) := match iv_fd (iv_kf mi) idx with
  | some q => match h[k]? with
    | some (.inl o) => if o.1 = q.1 ∧ q.2 < o.2.length ∧ iv_ok (iv_ft q.1 q.2) v = true ∧ (iv_fi q.1 q.2 = false ∨ (iv_ini mi = true ∧ iv_ow q.1 = iv_kf mi)) then some (some k, .inl (o.1, o.2.set q.2 v)) else none
    | _ => none
  | none => none
/-- an array of ints (or small types) at k: type, length, contents -/
def iv_ai (h : iv_H) (k : Nat) : Option (Nat × Nat × (Nat → Int32)) := match h[k]? with
  | some (.inr (t, n, .inl f)) => some (t, n, f)
  | _ => none
def iv_aj (h : iv_H) (k : Nat) : Option (Nat × Nat × (Nat → Int64)) := match h[k]? with
  | some (.inr (t, n, .inr (.inl f))) => some (t, n, f)
  | _ => none
def iv_aq (h : iv_H) (k : Nat) : Option (Nat × Nat × (Nat → Option Nat)) := match h[k]? with
  | some (.inr (t, n, .inr (.inr (.inr (.inr f))))) => some (t, n, f)
  | _ => none
def iv_in (i : Int32) (n : Nat) : Bool := decide (0 ≤ i) && decide (i.toNatClampNeg < n)
/-- types of arrays: iv_ty -/
def iv_is (t : Nat) (ty : FieldType) : Bool := decide (iv_ty[t]? = some ty)
def iv_tn (at_ : Jvm.ClassFile.ArrayType) : Nat := match at_ with
  | .int => 0
  | .long => 1
  | .boolean => 2
  | .byte => 3
  | _ => 99
def iv_a0 (t n : Nat) : vp_A := if t = 1 then (n, .inr (.inl (fun _ => 0))) else (n, .inl (fun _ => 0))
end
section
/-- what an instruction does to the heap: nothing, one cell set, one cell more -/
abbrev iv_F : Type := Option (Option Nat × iv_C)
abbrev iv_O : Type := Nat × iv_L × List Value × iv_F
def iv_ef (h : iv_H) (f : iv_F) : Option iv_H := match f with
  | none => some h
  | some (none, c) => some (h ++ [c])
  | some (some k, c) => if (h[k]?).map iv_cz = some (iv_cz c) then some (h.set k c) else none
def iv_jp (pc : Nat) (off : Int) (al : iv_L) (st : List Value) : Option iv_O := (iv_tg pc off).bind fun t => some (t, al, st, none)
def iv_br (b : Bool) (pc : Nat) (off : Int) (al : iv_L) (st : List Value) : Option iv_O := (iv_tg pc off).bind fun t => if b = true then some (t, al, st, none) else some (pc + 3, al, st, none)
def iv_pi (pc : Nat) (al : iv_L) (x : Int32) (r : List Value) : Option iv_O := some (pc, al, .int x :: r, none)
def iv_pj (pc : Nat) (al : iv_L) (x : Int64) (r : List Value) : Option iv_O := some (pc, al, .long x :: r, none)
def iv_ii (pc : Nat) (al : iv_L) (st : List Value) (f : Int32 → Int32 → Int32) : Option iv_O := iv_i st fun y r1 => iv_i r1 fun x r => iv_pi (pc + 1) al (f x y) r
def iv_jj (pc : Nat) (al : iv_L) (st : List Value) (f : Int64 → Int64 → Int64) : Option iv_O := iv_j st fun y r1 => iv_j r1 fun x r => iv_pj (pc + 1) al (f x y) r
def iv_c2 (pc : Nat) (off : Int) (al : iv_L) (st : List Value) (f : Int32 → Int32 → Bool) : Option iv_O := iv_i st fun y r1 => iv_i r1 fun x r => iv_br (f x y) pc off al r
def iv_c1 (pc : Nat) (off : Int) (al : iv_L) (st : List Value) (f : Int32 → Bool) : Option iv_O := iv_i st fun x r => iv_br (f x) pc off al r
theorem iv_ii_s {pc : Nat} {al : iv_L} {st : List Value} {f : Int32 → Int32 → Int32} {S : iv_O} (e : iv_ii pc al st f = some S) : ∃ x y r, st = .int y :: .int x :: r ∧ S = (pc + 1, al, .int (f x y) :: r, none) := by
  obtain ⟨y, r1, rfl, e_1⟩ := iv_i_s e
  obtain ⟨x, r, rfl, e_2⟩ := iv_i_s e_1
  cases e_2
  exact ⟨x, y, r, rfl, rfl⟩
theorem iv_jj_s {pc : Nat} {al : iv_L} {st : List Value} {f : Int64 → Int64 → Int64} {S : iv_O} (e : iv_jj pc al st f = some S) : ∃ x y r, st = .long y :: .long x :: r ∧ S = (pc + 1, al, .long (f x y) :: r, none) := by
  obtain ⟨y, r1, rfl, e_1⟩ := iv_j_s e
  obtain ⟨x, r, rfl, e_2⟩ := iv_j_s e_1
  cases e_2
  exact ⟨x, y, r, rfl, rfl⟩
theorem iv_br_s {b : Bool} {pc : Nat} {off : Int} {al : iv_L} {r : List Value} {S : iv_O} (e : iv_br b pc off al r = some S) : ∃ t : Nat, (pc : Int) + off = (t : Int) ∧ ((b = true ∧ S = (t, al, r, none)) ∨ (b = false ∧ S = (pc + 3, al, r, none))) := by
  obtain ⟨t, h1, e_1⟩ := Option.bind_eq_some_iff.mp e
  refine ⟨t, iv_tg_s h1, ?_⟩
  split at e_1
  · cases e_1
    exact Or.inl ⟨by assumption, rfl⟩
  · cases e_1
    exact Or.inr ⟨by simp_all, rfl⟩
theorem iv_c2_s {pc : Nat} {off : Int} {al : iv_L} {st : List Value} {f : Int32 → Int32 → Bool} {S : iv_O} (e : iv_c2 pc off al st f = some S) : ∃ x y r, st = .int y :: .int x :: r ∧ ∃ t : Nat, (pc : Int) + off = (t : Int) ∧ ((f x y = true ∧ S = (t, al, r, none)) ∨ (f x y = false ∧ S = (pc + 3, al, r, none))) := by
  obtain ⟨y, r1, rfl, e_1⟩ := iv_i_s e
  obtain ⟨x, r, rfl, e_2⟩ := iv_i_s e_1
  exact ⟨x, y, r, rfl, iv_br_s e_2⟩
theorem iv_c1_s {pc : Nat} {off : Int} {al : iv_L} {st : List Value} {f : Int32 → Bool} {S : iv_O} (e : iv_c1 pc off al st f = some S) : ∃ x r, st = .int x :: r ∧ ∃ t : Nat, (pc : Int) + off = (t : Int) ∧ ((f x = true ∧ S = (t, al, r, none)) ∨ (f x = false ∧ S = (pc + 3, al, r, none))) := by
  obtain ⟨x, r, rfl, e_1⟩ := iv_i_s e
  exact ⟨x, r, rfl, iv_br_s e_1⟩
theorem iv_pi_s {pc : Nat} {al : iv_L} {x : Int32} {r : List Value} {S : iv_O} (e : iv_pi pc al x r = some S) : S = (pc, al, .int x :: r, none) := (Option.some.inj e).symm
theorem iv_pj_s {pc : Nat} {al : iv_L} {x : Int64} {r : List Value} {S : iv_O} (e : iv_pj pc al x r = some S) : S = (pc, al, .long x :: r, none) := (Option.some.inj e).symm
theorem iv_jp_s {pc : Nat} {off : Int} {al : iv_L} {r : List Value} {S : iv_O} (e : iv_jp pc off al r = some S) : ∃ t : Nat, (pc : Int) + off = (t : Int) ∧ S = (t, al, r, none) := by
  obtain ⟨t, h1, e_1⟩ := Option.bind_eq_some_iff.mp e
  cases e_1
  exact ⟨t, iv_tg_s h1, rfl⟩
/-- local numbers that are stored are within the method's -/
def iv_sl (mi : Nat) (i w : Nat) (S : iv_O) : Option iv_O := if i + w < iv_mx mi then some S else none
theorem iv_sl_s {mi i w : Nat} {S S' : iv_O} (e : iv_sl mi i w S = some S') : i + w < iv_mx mi ∧ S' = S := by
  unfold iv_sl at e
  split at e
  · exact ⟨by assumption, (Option.some.inj e).symm⟩
  · cases e
def iv_sti (mi pc i : Nat) (al : iv_L) (st : List Value) : Option iv_O := iv_i st fun x r => iv_sl mi i 0 (pc, iv_s1 al i (.int x), r, none)
def iv_stj (mi pc i : Nat) (al : iv_L) (st : List Value) : Option iv_O := iv_j st fun x r => iv_sl mi i 1 (pc, iv_s2 al i (.long x), r, none)
def iv_sta (mi pc i : Nat) (al : iv_L) (st : List Value) : Option iv_O := iv_r st fun x r => iv_sl mi i 0 (pc, iv_s1 al i (.ref x), r, none)
/-- loads and stores of arrays -/
def iv_ald (ty : FieldType) (pc : Nat) (al : iv_L) (st : List Value) (h : iv_H) : Option iv_O := iv_i st fun i r1 => iv_r r1 fun k r => (iv_ai h k).bind fun q => if iv_in i q.2.1 = true ∧ iv_is q.1 ty = true then iv_pi (pc + 1) al (q.2.2 i.toNatClampNeg) r else none
def iv_ast (ty : FieldType) (pc : Nat) (al : iv_L) (st : List Value) (h : iv_H) : Option iv_O := iv_i st fun x r2 => iv_i r2 fun i r1 => iv_r r1 fun k r => (iv_ai h k).bind fun q => if iv_in i q.2.1 = true ∧ iv_is q.1 ty = true then some (pc + 1, al, r, some (some k, .inr (q.1, q.2.1, .inl (upd q.2.2 i.toNatClampNeg (vp_nar ty x))))) else none
theorem iv_in_s {i : Int32} {n : Nat} (h : iv_in i n = true) : vp_in i n := by
  unfold iv_in at h
  simp only [Bool.and_eq_true, decide_eq_true_eq] at h
  intro q
  rcases q with q | q
  · exact absurd h.1 (Int32.not_le.mpr q)
  · omega
theorem iv_is_s {t : Nat} {ty : FieldType} (h : iv_is t ty = true) : iv_ty[t]? = some ty := of_decide_eq_true h
theorem iv_ai_s {h : iv_H} {k : Nat} {q : Nat × Nat × (Nat → Int32)} (e : iv_ai h k = some q) : h[k]? = some (.inr (q.1, q.2.1, .inl q.2.2)) := by
  unfold iv_ai at e
  split at e
  · cases e; assumption
  · cases e
theorem iv_aj_s {h : iv_H} {k : Nat} {q : Nat × Nat × (Nat → Int64)} (e : iv_aj h k = some q) : h[k]? = some (.inr (q.1, q.2.1, .inr (.inl q.2.2))) := by
  unfold iv_aj at e
  split at e
  · cases e; assumption
  · cases e
theorem iv_aq_s {h : iv_H} {k : Nat} {q : Nat × Nat × (Nat → Option Nat)} (e : iv_aq h k = some q) : h[k]? = some (.inr (q.1, q.2.1, .inr (.inr (.inr (.inr q.2.2))))) := by
  unfold iv_aq at e
  split at e
  · cases e; assumption
  · cases e
theorem iv_ald_s {ty : FieldType} {pc : Nat} {al : iv_L} {st : List Value} {h : iv_H} {S : iv_O} (e : iv_ald ty pc al st h = some S) : ∃ i k r t n f, st = .int i :: .ref k :: r ∧ h[k]? = some (.inr (t, n, .inl f)) ∧ vp_in i n ∧ iv_ty[t]? = some ty ∧ S = (pc + 1, al, .int (f i.toNatClampNeg) :: r, none) := by
  obtain ⟨i, r1, rfl, e_1⟩ := iv_i_s e
  obtain ⟨k, r, rfl, e_2⟩ := iv_r_s e_1
  obtain ⟨q, e1, e_3⟩ := Option.bind_eq_some_iff.mp e_2
  split at e_3
  · rename_i hc
    exact ⟨i, k, r, q.1, q.2.1, q.2.2, rfl, iv_ai_s e1, iv_in_s hc.1, iv_is_s hc.2, iv_pi_s e_3⟩
  · cases e_3
theorem iv_ast_s {ty : FieldType} {pc : Nat} {al : iv_L} {st : List Value} {h : iv_H} {S : iv_O} (e : iv_ast ty pc al st h = some S) : ∃ x i k r t n f, st = .int x :: .int i :: .ref k :: r ∧ h[k]? = some (.inr (t, n, .inl f)) ∧ vp_in i n ∧ iv_ty[t]? = some ty ∧ S = (pc + 1, al, r, some (some k, .inr (t, n, .inl (upd f i.toNatClampNeg (vp_nar ty x))))) := by
  obtain ⟨x, r2, rfl, e_1⟩ := iv_i_s e
  obtain ⟨i, r1, rfl, e_2⟩ := iv_i_s e_1
  obtain ⟨k, r, rfl, e_3⟩ := iv_r_s e_2
  obtain ⟨q, e1, e_4⟩ := Option.bind_eq_some_iff.mp e_3
  split at e_4
  · rename_i hc
    exact ⟨x, i, k, r, q.1, q.2.1, q.2.2, rfl, iv_ai_s e1, iv_in_s hc.1, iv_is_s hc.2, (Option.some.inj e_4).symm⟩
  · cases e_4
theorem iv_gf_s {mi idx k : Nat} {h : iv_H} {v : Value} (e : iv_gf mi idx h k = some v) : ∃ ci j fs, iv_fd (iv_kf mi) idx = some (ci, j) ∧ h[k]? = some (.inl (ci, fs)) ∧ fs[j]? = some v := by
  unfold iv_gf at e
  split at e
  · rename_i q hq
    split at e
    · rename_i o ho
      split at e
      · rename_i hc
        obtain ⟨ci, j⟩ := q
        obtain ⟨c1, fs⟩ := o
        dsimp only at hc e
        subst hc
        exact ⟨c1, j, fs, hq, ho, e⟩
      · cases e
    · cases e
  · cases e
theorem iv_pf_s {mi idx k : Nat} {h : iv_H} {v : Value} {f : Option Nat × iv_C} (e : iv_pf mi idx h k v = some f) : ∃ ci j fs, iv_fd (iv_kf mi) idx = some (ci, j) ∧ h[k]? = some (.inl (ci, fs)) ∧ j < fs.length ∧ iv_ok (iv_ft ci j) v = true ∧ (iv_fi ci j = false ∨ (iv_ini mi = true ∧ iv_ow ci = iv_kf mi)) ∧ f = (some k, .inl (ci, fs.set j v)) := by
  unfold iv_pf at e
  split at e
  · rename_i q hq
    split at e
    · rename_i o ho
      split at e
      · rename_i hc
        obtain ⟨ci, j⟩ := q
        obtain ⟨c1, fs⟩ := o
        dsimp only at hc e
        obtain ⟨h1, h2, h3, h4⟩ := hc
        subst h1
        exact ⟨c1, j, fs, hq, ho, h2, h3, h4, (Option.some.inj e).symm⟩
      · cases e
    · cases e
  · cases e
def iv_1or2 {α : Type} (st : List Value) (f : Value → List Value → Option α) : Option α := match st with
  | x :: r => f x r
  | _ => none
theorem iv_1or2_s {α : Type} {st : List Value} {f : Value → List Value → Option α} {a : α} (h : iv_1or2 st f = some a) : ∃ x r, st = x :: r ∧ f x r = some a := by
  unfold iv_1or2 at h
  split at h
  · exact ⟨_, _, rfl, h⟩
  · cases h
/-- an array of objects; its objects' class -/
def iv_iq (t : Nat) : Bool := match iv_ty[t]? with
  | some (.object _) => true
  | _ => false
def iv_qc (h : iv_H) (t b : Nat) : Bool := match h[b]? with
  | some (.inl o) => match iv_cl[o.1]? with
    | some r => iv_is t (.object r.1)
    | none => false
  | _ => false
/-- Math.min of two ints -/
def iv_min (pc : Nat) (al : iv_L) (st : List Value) : Option iv_O := iv_i st fun y r1 => iv_i r1 fun x r => if (r.map fun v => v.category).sum ≤ 8 then iv_pi (pc + 3) al (if y < x then y else x) r else none
/-- Math.max of two ints -/
def iv_max (pc : Nat) (al : iv_L) (st : List Value) : Option iv_O := iv_i st fun y r1 => iv_i r1 fun x r => if (r.map fun v => v.category).sum ≤ 8 then iv_pi (pc + 3) al (if x < y then y else x) r else none
/-- Math.abs of an int, of a long -/
def iv_abi (pc : Nat) (al : iv_L) (st : List Value) : Option iv_O := iv_i st fun x r => if (r.map fun v => v.category).sum ≤ 8 then iv_pi (pc + 3) al (if 0 ≤ x then x else 0 - x) r else none
def iv_abl (pc : Nat) (al : iv_L) (st : List Value) : Option iv_O := iv_j st fun x r => if (r.map fun v => v.category).sum ≤ 8 then iv_pj (pc + 3) al (if 0 < x then x else -x) r else none
/-- System.arraycopy of ints -/
def iv_cpy (pc : Nat) (al : iv_L) (st : List Value) (h : iv_H) : Option iv_O := iv_i st fun n r4 => iv_i r4 fun dp r3 => iv_r r3 fun b r2 => iv_i r2 fun sp r1 => iv_r r1 fun a r => (iv_ai h a).bind fun q => (iv_ai h b).bind fun u =>
  if 0 ≤ sp ∧ 0 ≤ dp ∧ 0 ≤ n ∧ sp.toNatClampNeg + n.toNatClampNeg ≤ q.2.1 ∧ dp.toNatClampNeg + n.toNatClampNeg ≤ u.2.1 ∧ iv_is q.1 .int = true ∧ iv_is u.1 .int = true ∧ (r.map fun v => v.category).sum ≤ 8 then
    some (pc + 3, al, r, some (some b, .inr (u.1, u.2.1, .inl (va_cpy q.2.2 u.2.2 sp.toNatClampNeg dp.toNatClampNeg n.toNatClampNeg)))) else none
/-! doubles and floats that are no NaN -/
def id_d {α : Type} (st : List Value) (f : UInt64 → List Value → Option α) : Option α := match st with
  | .double x :: r => f x r
  | _ => none
def id_f {α : Type} (st : List Value) (f : UInt32 → List Value → Option α) : Option α := match st with
  | .float x :: r => f x r
  | _ => none
theorem id_d_s {α : Type} {st : List Value} {f : UInt64 → List Value → Option α} {a : α} (h : id_d st f = some a) : ∃ x r, st = .double x :: r ∧ f x r = some a := by
  unfold id_d at h
  split at h
  · exact ⟨_, _, rfl, h⟩
  · cases h
theorem id_f_s {α : Type} {st : List Value} {f : UInt32 → List Value → Option α} {a : α} (h : id_f st f = some a) : ∃ x r, st = .float x :: r ∧ f x r = some a := by
  unfold id_f at h
  split at h
  · exact ⟨_, _, rfl, h⟩
  · cases h
def id_ld {α : Type} (al : iv_L) (i : Nat) (f : UInt64 → Option α) : Option α := match al[i]? with
  | some (some (.double x)) => f x
  | _ => none
def id_lf {α : Type} (al : iv_L) (i : Nat) (f : UInt32 → Option α) : Option α := match al[i]? with
  | some (some (.float x)) => f x
  | _ => none
theorem id_ld_s {α : Type} {al : iv_L} {i : Nat} {f : UInt64 → Option α} {a : α} (h : id_ld al i f = some a) : ∃ x, al[i]? = some (some (.double x)) ∧ f x = some a := by
  unfold id_ld at h
  split at h
  · exact ⟨_, by assumption, h⟩
  · cases h
theorem id_lf_s {α : Type} {al : iv_L} {i : Nat} {f : UInt32 → Option α} {a : α} (h : id_lf al i f = some a) : ∃ x, al[i]? = some (some (.float x)) ∧ f x = some a := by
  unfold id_lf at h
  split at h
  · exact ⟨_, by assumption, h⟩
  · cases h
def id_pd (pc : Nat) (al : iv_L) (x : UInt64) (r : List Value) : Option iv_O := some (pc, al, .double x :: r, none)
def id_pf (pc : Nat) (al : iv_L) (x : UInt32) (r : List Value) : Option iv_O := some (pc, al, .float x :: r, none)
theorem id_pd_s {pc : Nat} {al : iv_L} {x : UInt64} {r : List Value} {S : iv_O} (e : id_pd pc al x r = some S) : S = (pc, al, .double x :: r, none) := (Option.some.inj e).symm
theorem id_pf_s {pc : Nat} {al : iv_L} {x : UInt32} {r : List Value} {S : iv_O} (e : id_pf pc al x r = some S) : S = (pc, al, .float x :: r, none) := (Option.some.inj e).symm
def id_n6 (x : UInt64) : Bool := decide (x &&& 0x7fffffffffffffff ≤ 0x7ff0000000000000)
def id_n3 (x : UInt32) : Bool := decide (x &&& 0x7fffffff ≤ 0x7f800000)
theorem id_n6_s {x : UInt64} (h : id_n6 x = true) : x &&& 0x7fffffffffffffff ≤ 0x7ff0000000000000 := of_decide_eq_true h
theorem id_n3_s {x : UInt32} (h : id_n3 x = true) : x &&& 0x7fffffff ≤ 0x7f800000 := of_decide_eq_true h
/-- pushes a double, a float that must be no NaN -/
def id_gd (pc : Nat) (al : iv_L) (x : UInt64) (r : List Value) : Option iv_O := if id_n6 x = true then id_pd pc al x r else none
def id_gf (pc : Nat) (al : iv_L) (x : UInt32) (r : List Value) : Option iv_O := if id_n3 x = true then id_pf pc al x r else none
theorem id_gd_s {pc : Nat} {al : iv_L} {x : UInt64} {r : List Value} {S : iv_O} (e : id_gd pc al x r = some S) : vf_n64 x ∧ S = (pc, al, .double x :: r, none) := by
  unfold id_gd at e
  split at e
  · exact ⟨id_n6_s (by assumption), id_pd_s e⟩
  · cases e
theorem id_gf_s {pc : Nat} {al : iv_L} {x : UInt32} {r : List Value} {S : iv_O} (e : id_gf pc al x r = some S) : vf_n32 x ∧ S = (pc, al, .float x :: r, none) := by
  unfold id_gf at e
  split at e
  · exact ⟨id_n3_s (by assumption), id_pf_s e⟩
  · cases e
def id_dd (pc : Nat) (al : iv_L) (st : List Value) (f : UInt64 → UInt64 → UInt64) : Option iv_O := id_d st fun y r1 => id_d r1 fun x r => id_gd (pc + 1) al (f x y) r
theorem id_dd_s {pc : Nat} {al : iv_L} {st : List Value} {f : UInt64 → UInt64 → UInt64} {S : iv_O} (e : id_dd pc al st f = some S) : ∃ x y r, st = .double y :: .double x :: r ∧ vf_n64 (f x y) ∧ S = (pc + 1, al, .double (f x y) :: r, none) := by
  obtain ⟨y, r1, rfl, e_1⟩ := id_d_s e
  obtain ⟨x, r, rfl, e_2⟩ := id_d_s e_1
  obtain ⟨h1, h2⟩ := id_gd_s e_2
  exact ⟨x, y, r, rfl, h1, h2⟩
def id_st (mi pc i : Nat) (al : iv_L) (st : List Value) : Option iv_O := id_d st fun x r => iv_sl mi i 1 (pc, iv_s2 al i (.double x), r, none)
/-- constants of two slots: longs, then doubles -/
def id_l2 (mi pc idx : Nat) (al : iv_L) (st : List Value) : Option iv_O := match iv_l2 (iv_kf mi) idx with
  | some x => iv_pj pc al x st
  | none => (id_lc (iv_kf mi) idx).bind fun x => id_pd pc al x st
theorem id_l2_s {mi pc idx : Nat} {al : iv_L} {st : List Value} {S : iv_O} (e : id_l2 mi pc idx al st = some S) : (∃ x, iv_l2 (iv_kf mi) idx = some x ∧ S = (pc, al, .long x :: st, none)) ∨ ∃ x, id_lc (iv_kf mi) idx = some x ∧ S = (pc, al, .double x :: st, none) := by
  unfold id_l2 at e
  split at e
  · exact Or.inl ⟨_, by assumption, iv_pj_s e⟩
  · obtain ⟨x, e1, e_1⟩ := Option.bind_eq_some_iff.mp e
    exact Or.inr ⟨x, e1, id_pd_s e_1⟩
/-- the JDK's methods over doubles and floats: 1 the bits of a double, 2 of a float, 3 abs, 4 floor -/
def id_c8 (r : List Value) : Bool := decide ((r.map fun v => v.category).sum ≤ 8)
def id_cl (k pc : Nat) (al : iv_L) (st : List Value) : Option iv_O := match k with
  | 1 => id_d st fun x r => if (id_n6 x && id_c8 r) = true then iv_pj (pc + 3) al x.toInt64 r else none
  | 2 => id_f st fun x r => if (id_n3 x && id_c8 r) = true then iv_pi (pc + 3) al x.toInt32 r else none
  | 3 => id_d st fun x r => if (id_n6 x && id_c8 r) = true then id_pd (pc + 3) al (x &&& 0x7fffffffffffffff) r else none
  | 4 => id_d st fun x r => if (id_n6 x && id_c8 r) = true then id_pd (pc + 3) al (Jvm.Free.Hsc.floorOf x) r else none
  | _ => none
def id_jc (mi pc idx : Nat) (al : iv_L) (st : List Value) : Option iv_O := (id_dj (iv_kf mi) idx).bind fun k => id_cl k pc al st
theorem id_ng {c : Bool} {r : List Value} (h : (c && id_c8 r) = true) : c = true ∧ (r.map fun v => v.category).sum ≤ 8 := by
  simp only [Bool.and_eq_true] at h
  exact ⟨h.1, of_decide_eq_true h.2⟩
theorem id_jc_s {mi pc idx : Nat} {al : iv_L} {st : List Value} {o : iv_O} (e : id_jc mi pc idx al st = some o) : ∃ r, (r.map fun v => v.category).sum ≤ 8 ∧
    ((id_dj (iv_kf mi) idx = some 1 ∧ ∃ x, vf_n64 x ∧ st = .double x :: r ∧ o = (pc + 3, al, .long x.toInt64 :: r, none)) ∨
     (id_dj (iv_kf mi) idx = some 2 ∧ ∃ x, vf_n32 x ∧ st = .float x :: r ∧ o = (pc + 3, al, .int x.toInt32 :: r, none)) ∨
     (id_dj (iv_kf mi) idx = some 3 ∧ ∃ x, vf_n64 x ∧ st = .double x :: r ∧ o = (pc + 3, al, .double (x &&& 0x7fffffffffffffff) :: r, none)) ∨
     (id_dj (iv_kf mi) idx = some 4 ∧ ∃ x, vf_n64 x ∧ st = .double x :: r ∧ o = (pc + 3, al, .double (Jvm.Free.Hsc.floorOf x) :: r, none))) := by
  obtain ⟨k, e1, e_1⟩ := Option.bind_eq_some_iff.mp e
  unfold id_cl at e_1
  split at e_1
  · obtain ⟨x, r, rfl, e_2⟩ := id_d_s e_1
    split at e_2
    · rename_i hc
      obtain ⟨h1, h2⟩ := id_ng hc
      exact ⟨r, h2, Or.inl ⟨e1, x, id_n6_s h1, rfl, iv_pj_s e_2⟩⟩
    · cases e_2
  · obtain ⟨x, r, rfl, e_2⟩ := id_f_s e_1
    split at e_2
    · rename_i hc
      obtain ⟨h1, h2⟩ := id_ng hc
      exact ⟨r, h2, Or.inr (Or.inl ⟨e1, x, id_n3_s h1, rfl, iv_pi_s e_2⟩)⟩
    · cases e_2
  · obtain ⟨x, r, rfl, e_2⟩ := id_d_s e_1
    split at e_2
    · rename_i hc
      obtain ⟨h1, h2⟩ := id_ng hc
      exact ⟨r, h2, Or.inr (Or.inr (Or.inl ⟨e1, x, id_n6_s h1, rfl, id_pd_s e_2⟩))⟩
    · cases e_2
  · obtain ⟨x, r, rfl, e_2⟩ := id_d_s e_1
    split at e_2
    · rename_i hc
      obtain ⟨h1, h2⟩ := id_ng hc
      exact ⟨r, h2, Or.inr (Or.inr (Or.inr ⟨e1, x, id_n6_s h1, rfl, id_pd_s e_2⟩))⟩
    · cases e_2
  · cases e_1
def iv_sem (op : Jvm.ClassFile.Instr) : Option (iv_Z → Nat → Nat → iv_L → List Value → iv_H → Option iv_O) := match op with
  | .iconst n => some fun z mi pc al st h => iv_pi (pc + 1) al (Int32.ofInt n) st
  | .bipush n => some fun z mi pc al st h => iv_pi (pc + 2) al (Int8.ofInt n).toInt32 st
  | .sipush n => some fun z mi pc al st h => iv_pi (pc + 3) al (Int16.ofInt n).toInt32 st
  | .lconst n => some fun z mi pc al st h => iv_pj (pc + 1) al (Int64.ofNat (n : Nat)) st
  | .ldc idx => some fun z mi pc al st h => (iv_lc (iv_kf mi) idx).bind fun x => iv_pi (pc + 2) al x st
  | .ldc_w idx => some fun z mi pc al st h => (iv_lc (iv_kf mi) idx).bind fun x => iv_pi (pc + 3) al x st
  | .ldc2_w idx => some fun z mi pc al st h => id_l2 mi (pc + 3) idx al st
  | .iload_n k => some fun z mi pc al st h => iv_li al (k : Nat) fun x => iv_pi (pc + 1) al x st
  | .iload i => some fun z mi pc al st h => iv_li al i fun x => iv_pi (pc + 2) al x st
  | .lload_n k => some fun z mi pc al st h => iv_lj al (k : Nat) fun x => iv_pj (pc + 1) al x st
  | .lload i => some fun z mi pc al st h => iv_lj al i fun x => iv_pj (pc + 2) al x st
  | .aload_n k => some fun z mi pc al st h => iv_la al (k : Nat) fun x => some (pc + 1, al, x :: st, none)
  | .aload i => some fun z mi pc al st h => iv_la al i fun x => some (pc + 2, al, x :: st, none)
  | .istore_n k => some fun z mi pc al st h => iv_sti mi (pc + 1) (k : Nat) al st
  | .istore i => some fun z mi pc al st h => iv_sti mi (pc + 2) i al st
  | .lstore_n k => some fun z mi pc al st h => iv_stj mi (pc + 1) (k : Nat) al st
  | .lstore i => some fun z mi pc al st h => iv_stj mi (pc + 2) i al st
  | .astore_n k => some fun z mi pc al st h => iv_sta mi (pc + 1) (k : Nat) al st
  | .astore i => some fun z mi pc al st h => iv_sta mi (pc + 2) i al st
  | .iinc i n => some fun z mi pc al st h => iv_li al i fun x => iv_sl mi i 0 (pc + 3, iv_s1 al i (.int (x + Int32.ofInt n)), st, none)
  | .iadd => some fun z mi pc al st h => iv_ii pc al st (fun x y => x + y)
  | .isub => some fun z mi pc al st h => iv_ii pc al st (fun x y => x - y)
  | .imul => some fun z mi pc al st h => iv_ii pc al st (fun x y => x * y)
  | .iand => some fun z mi pc al st h => iv_ii pc al st (fun x y => x &&& y)
  | .ior => some fun z mi pc al st h => iv_ii pc al st (fun x y => x ||| y)
  | .ixor => some fun z mi pc al st h => iv_ii pc al st (fun x y => x ^^^ y)
  | .ishl => some fun z mi pc al st h => iv_ii pc al st (fun x y => x <<< (y &&& 31))
  | .ishr => some fun z mi pc al st h => iv_ii pc al st (fun x y => x >>> (y &&& 31))
  | .iushr => some fun z mi pc al st h => iv_ii pc al st (fun x y => (x.toUInt32 >>> (y.toUInt32 &&& Int32.toUInt32 31)).toInt32)
  | .idiv => some fun z mi pc al st h => iv_i st fun y r1 => iv_i r1 fun x r => if y = 0 then none else iv_pi (pc + 1) al (x / y) r
  | .irem => some fun z mi pc al st h => iv_i st fun y r1 => iv_i r1 fun x r => if y = 0 then none else iv_pi (pc + 1) al (x - x / y * y) r
  | .ineg => some fun z mi pc al st h => iv_i st fun x r => iv_pi (pc + 1) al (-x) r
  | .ladd => some fun z mi pc al st h => iv_jj pc al st (fun x y => x + y)
  | .lsub => some fun z mi pc al st h => iv_jj pc al st (fun x y => x - y)
  | .lmul => some fun z mi pc al st h => iv_jj pc al st (fun x y => x * y)
  | .land => some fun z mi pc al st h => iv_jj pc al st (fun x y => x &&& y)
  | .lor => some fun z mi pc al st h => iv_jj pc al st (fun x y => x ||| y)
  | .lxor => some fun z mi pc al st h => iv_jj pc al st (fun x y => x ^^^ y)
  | .lshl => some fun z mi pc al st h => iv_i st fun y r1 => iv_j r1 fun x r => iv_pj (pc + 1) al (x <<< (y.toInt64 &&& 63)) r
  | .lshr => some fun z mi pc al st h => iv_i st fun y r1 => iv_j r1 fun x r => iv_pj (pc + 1) al (x >>> (y.toInt64 &&& 63)) r
  | .pop2 => some fun z mi pc al st h => iv_2 st fun _ r => some (pc + 1, al, r, none)
  | .ldiv => some fun z mi pc al st h => iv_j st fun y r1 => iv_j r1 fun x r => if y = 0 then none else iv_pj (pc + 1) al (x / y) r
  | .lrem => some fun z mi pc al st h => iv_j st fun y r1 => iv_j r1 fun x r => if y = 0 then none else iv_pj (pc + 1) al (x - x / y * y) r
  | .lneg => some fun z mi pc al st h => iv_j st fun x r => iv_pj (pc + 1) al (-x) r
  | .lcmp => some fun z mi pc al st h => iv_j st fun y r1 => iv_j r1 fun x r => iv_pi (pc + 1) al (lg_cmp x y) r
  | .i2l => some fun z mi pc al st h => iv_i st fun x r => iv_pj (pc + 1) al x.toInt64 r
  | .l2i => some fun z mi pc al st h => iv_j st fun x r => iv_pi (pc + 1) al x.toInt32 r
  | .i2b => some fun z mi pc al st h => iv_i st fun x r => iv_pi (pc + 1) al x.toInt8.toInt32 r
  | .dup => some fun z mi pc al st h => iv_1 st fun v r => some (pc + 1, al, v :: v :: r, none)
  | .pop => some fun z mi pc al st h => iv_1 st fun _ r => some (pc + 1, al, r, none)
  | .dup_x1 => some fun z mi pc al st h => iv_1 st fun v r1 => iv_1 r1 fun w r => some (pc + 1, al, v :: w :: v :: r, none)
  | .dup_x2 => some fun z mi pc al st h => iv_1 st fun v r1 => iv_1 r1 fun w r2 => iv_1 r2 fun x r => some (pc + 1, al, v :: w :: x :: v :: r, none)
  | .dup2 => some fun z mi pc al st h => iv_1 st fun v r1 => iv_1 r1 fun w r => some (pc + 1, al, v :: w :: v :: w :: r, none)
  | .goto off => some fun z mi pc al st h => iv_jp pc off al st
  | .ifCond .eq off => some fun z mi pc al st h => iv_c1 pc off al st (fun x => decide (x = 0))
  | .ifCond .ne off => some fun z mi pc al st h => iv_c1 pc off al st (fun x => decide (¬ x = 0))
  | .ifCond .lt off => some fun z mi pc al st h => iv_c1 pc off al st (fun x => decide (x < 0))
  | .ifCond .ge off => some fun z mi pc al st h => iv_c1 pc off al st (fun x => decide (0 ≤ x))
  | .ifCond .gt off => some fun z mi pc al st h => iv_c1 pc off al st (fun x => decide (0 < x))
  | .ifCond .le off => some fun z mi pc al st h => iv_c1 pc off al st (fun x => decide (x ≤ 0))
  | .if_icmp .eq off => some fun z mi pc al st h => iv_c2 pc off al st (fun x y => decide (x = y))
  | .if_icmp .ne off => some fun z mi pc al st h => iv_c2 pc off al st (fun x y => decide (¬ x = y))
  | .if_icmp .lt off => some fun z mi pc al st h => iv_c2 pc off al st (fun x y => decide (x < y))
  | .if_icmp .ge off => some fun z mi pc al st h => iv_c2 pc off al st (fun x y => decide (y ≤ x))
  | .if_icmp .gt off => some fun z mi pc al st h => iv_c2 pc off al st (fun x y => decide (y < x))
  | .if_icmp .le off => some fun z mi pc al st h => iv_c2 pc off al st (fun x y => decide (x ≤ y))
  | .tableswitch dflt lo hi offs => some fun z mi pc al st h => iv_i st fun x r => if x.toInt < lo ∨ hi < x.toInt then iv_jp pc dflt al r else (offs[(x.toInt - lo).toNat]?).bind fun off => iv_jp pc off al r
  | .lookupswitch dflt ps => some fun z mi pc al st h => iv_i st fun x r => if (ps.toList.zip (ps.toList.drop 1)).all (fun (a, next) => a.1 < next.1) = true then iv_jp pc (Op.lookupswitch.offset ps.toList dflt x.toInt) al r else none
  | .getfield idx => some fun z mi pc al st h => iv_r st fun k r => (iv_gf mi idx h k).bind fun v => some (pc + 3, al, v :: r, none)
  | .putfield idx => some fun z mi pc al st h => iv_1or2 st fun v r1 => iv_r r1 fun k r => (iv_pf mi idx h k v).bind fun q => some (pc + 3, al, r, some q)
  | .new idx => some fun z mi pc al st h => (iv_nc (iv_kf mi) idx).bind fun ci => some (pc + 3, al, .ref h.length :: st, some (none, .inl (ci, iv_df ci)))
  | .newarray a => some fun z mi pc al st h => iv_i st fun n r => if 0 ≤ n ∧ n.toNatClampNeg ≤ 60000000 ∧ iv_tn a < 4 then some (pc + 2, al, .ref h.length :: r, some (none, .inr (iv_tn a, iv_a0 (iv_tn a) n.toNatClampNeg))) else none
  | .anewarray idx => some fun z mi pc al st h => iv_i st fun n r => (iv_ac (iv_kf mi) idx).bind fun t => if 0 ≤ n ∧ n.toNatClampNeg ≤ 60000000 then some (pc + 3, al, .ref h.length :: r, some (none, .inr (t, n.toNatClampNeg, .inr (.inr (.inr (.inr (fun _ => none))))))) else none
  | .arraylength => some fun z mi pc al st h => match st with
    | .ref k :: r => match h[k]? with
      | some (.inr a) => if (iv_ty[a.1]?).isSome = true then iv_pi (pc + 1) al (Int32.ofNat a.2.1) r else none
      | _ => none
    | .retAddr _ :: r => match z with
      | some q => iv_pi (pc + 1) al (Int32.ofNat q.1) r
      | none => none
    | _ => none
  | .iaload => some fun z mi pc al st h => match st with
    | .int i :: .retAddr _ :: r => match z with
      | some q => if iv_in i q.1 = true then iv_pi (pc + 1) al (q.2 i.toNatClampNeg) r else none
      | none => none
    | st => iv_ald .int pc al st h
  | .baload => some fun z mi pc al st h => match iv_ald .byte pc al st h with
    | some S => some S
    | none => iv_ald .boolean pc al st h
  | .iastore => some fun z mi pc al st h => iv_ast .int pc al st h
  | .bastore => some fun z mi pc al st h => match iv_ast .byte pc al st h with
    | some S => some S
    | none => iv_ast .boolean pc al st h
  | .laload => some fun z mi pc al st h => iv_i st fun i r1 => iv_r r1 fun k r => (iv_aj h k).bind fun q => if iv_in i q.2.1 = true ∧ iv_is q.1 .long = true then iv_pj (pc + 1) al (q.2.2 i.toNatClampNeg) r else none
  | .lastore => some fun z mi pc al st h => iv_j st fun x r2 => iv_i r2 fun i r1 => iv_r r1 fun k r => (iv_aj h k).bind fun q => if iv_in i q.2.1 = true ∧ iv_is q.1 .long = true then some (pc + 1, al, r, some (some k, .inr (q.1, q.2.1, .inr (.inl (vp_updL q.2.2 i.toNatClampNeg x))))) else none
  | .aaload => some fun z mi pc al st h => iv_i st fun i r1 => iv_r r1 fun k r => (iv_aq h k).bind fun q => if iv_in i q.2.1 = true ∧ iv_iq q.1 = true then match q.2.2 i.toNatClampNeg with
      | some b => some (pc + 1, al, .ref b :: r, none)
      | none => none
    else none
  | .aastore => some fun z mi pc al st h => iv_r st fun b r2 => iv_i r2 fun i r1 => iv_r r1 fun k r => (iv_aq h k).bind fun q => if iv_in i q.2.1 = true ∧ iv_qc h q.1 b = true then some (pc + 1, al, r, some (some k, .inr (q.1, q.2.1, .inr (.inr (.inr (.inr (va_up q.2.2 i.toNatClampNeg (some b)))))))) else none
  | .dconst k => some fun z mi pc al st h => id_pd (pc + 1) al (bif Nat.beq (k : Nat) 0 then FP.dconst0 else FP.dconst1) st
  | .dload_n k => some fun z mi pc al st h => id_ld al (k : Nat) fun x => id_pd (pc + 1) al x st
  | .dload i => some fun z mi pc al st h => id_ld al i fun x => id_pd (pc + 2) al x st
  | .fload_n k => some fun z mi pc al st h => id_lf al (k : Nat) fun x => id_pf (pc + 1) al x st
  | .dstore_n k => some fun z mi pc al st h => id_st mi (pc + 1) (k : Nat) al st
  | .dstore i => some fun z mi pc al st h => id_st mi (pc + 2) i al st
  | .dadd => some fun z mi pc al st h => id_dd pc al st FP.dadd
  | .dsub => some fun z mi pc al st h => id_dd pc al st FP.dsub
  | .dmul => some fun z mi pc al st h => id_dd pc al st FP.dmul
  | .ddiv => some fun z mi pc al st h => id_dd pc al st FP.ddiv
  | .drem => some fun z mi pc al st h => id_dd pc al st FP.drem
  | .dcmp op => some fun z mi pc al st h => id_d st fun y r1 => id_d r1 fun x r => iv_pi (pc + 1) al (Op.cmpValue (FP.dcmp x y) op) r
  | .i2d => some fun z mi pc al st h => iv_i st fun x r => id_pd (pc + 1) al (FP.i2d x) r
  | .l2d => some fun z mi pc al st h => iv_j st fun x r => id_pd (pc + 1) al (FP.l2d x) r
  | .d2l => some fun z mi pc al st h => id_d st fun x r => iv_pj (pc + 1) al (FP.d2l x) r
  | .d2f => some fun z mi pc al st h => id_d st fun x r => id_gf (pc + 1) al (FP.d2f x) r
  | .f2d => some fun z mi pc al st h => id_f st fun x r => id_gd (pc + 1) al (FP.f2d x) r
  | .invokespecial idx => some fun z mi pc al st h => if iv_oi (iv_kf mi) idx = true then iv_r st fun _ r => if (r.map fun v => v.category).sum ≤ 8 then some (pc + 3, al, r, none) else none else none
  | .invokestatic idx => some fun z mi pc al st h => if iv_cp (iv_kf mi) idx = true then iv_cpy pc al st h else if iv_mm (iv_kf mi) idx = true then iv_min pc al st else if iv_ma (iv_kf mi) idx = true then iv_max pc al st else if iv_ab (iv_kf mi) idx = true then iv_abi pc al st else if iv_lb (iv_kf mi) idx = true then iv_abl pc al st else id_jc mi pc idx al st
  | _ => none
def iv_op (z : iv_Z) (mi pc : Nat) (op : Jvm.ClassFile.Instr) (al : iv_L) (st : List Value) (h : iv_H) : Option iv_O := match iv_sem op with
  | some f => f z mi pc al st h
  | none => none
theorem iv_alen_s {z : iv_Z} {mi pc : Nat} {al : iv_L} {st : List Value} {h : iv_H} {o : iv_O} (e : iv_op z mi pc .arraylength al st h = some o) : (∃ k r a, st = .ref k :: r ∧ h[k]? = some (.inr a) ∧ (∃ ty, iv_ty[a.1]? = some ty) ∧ o = (pc + 1, al, .int (Int32.ofNat a.2.1) :: r, none)) ∨ (∃ k r q, st = .retAddr k :: r ∧ z = some q ∧ o = (pc + 1, al, .int (Int32.ofNat q.1) :: r, none)) := by
  simp only [iv_op, iv_sem] at e
  split at e
  · split at e
    · rename_i a ha
      split at e
      · rename_i hs
        exact Or.inl ⟨_, _, a, rfl, ha, Option.isSome_iff_exists.mp hs, iv_pi_s e⟩
      · cases e
    · cases e
  · split at e
    · exact Or.inr ⟨_, _, _, rfl, rfl, iv_pi_s e⟩
    · cases e
  · cases e
theorem iv_iald_s {z : iv_Z} {mi pc : Nat} {al : iv_L} {st : List Value} {h : iv_H} {o : iv_O} (e : iv_op z mi pc .iaload al st h = some o) : (∃ i k r q, st = .int i :: .retAddr k :: r ∧ z = some q ∧ iv_in i q.1 = true ∧ o = (pc + 1, al, .int (q.2 i.toNatClampNeg) :: r, none)) ∨ iv_ald .int pc al st h = some o := by
  simp only [iv_op, iv_sem] at e
  split at e
  · split at e
    · split at e
      · exact Or.inl ⟨_, _, _, _, rfl, rfl, by assumption, iv_pi_s e⟩
      · cases e
    · cases e
  · exact Or.inr e
theorem iv_bald_s {z : iv_Z} {mi pc : Nat} {al : iv_L} {st : List Value} {h : iv_H} {o : iv_O} (e : iv_op z mi pc .baload al st h = some o) : iv_ald .byte pc al st h = some o ∨ iv_ald .boolean pc al st h = some o := by
  simp only [iv_op, iv_sem] at e
  split at e
  · rename_i hS
    exact Or.inl (hS.trans e)
  · exact Or.inr e
theorem iv_bast_s {z : iv_Z} {mi pc : Nat} {al : iv_L} {st : List Value} {h : iv_H} {o : iv_O} (e : iv_op z mi pc .bastore al st h = some o) : iv_ast .byte pc al st h = some o ∨ iv_ast .boolean pc al st h = some o := by
  simp only [iv_op, iv_sem] at e
  split at e
  · rename_i hS
    exact Or.inl (hS.trans e)
  · exact Or.inr e
theorem iv_iq_s {t : Nat} (h : iv_iq t = true) : ∃ C : String, iv_ty[t]? = some (.object C) := by
  unfold iv_iq at h
  split at h
  · exact ⟨_, by assumption⟩
  · cases h
theorem iv_qc_s {h : iv_H} {t b : Nat} (e : iv_qc h t b = true) : ∃ ci fs r, h[b]? = some (.inl (ci, fs)) ∧ iv_cl[ci]? = some r ∧ iv_ty[t]? = some (.object r.1) := by
  unfold iv_qc at e
  split at e
  · rename_i o ho
    split at e
    · rename_i r hr
      exact ⟨o.1, o.2, r, ho, hr, iv_is_s e⟩
    · cases e
  · cases e
theorem iv_oi_s {z : iv_Z} {mi pc idx : Nat} {al : iv_L} {st : List Value} {h : iv_H} {o : iv_O} (e : iv_op z mi pc (.invokespecial idx) al st h = some o) : iv_oi (iv_kf mi) idx = true ∧ ∃ k r, st = .ref k :: r ∧ (r.map fun v => v.category).sum ≤ 8 ∧ o = (pc + 3, al, r, none) := by
  simp only [iv_op, iv_sem] at e
  split at e
  · rename_i h1
    obtain ⟨k, r, rfl, e_1⟩ := iv_r_s e
    split at e_1
    · rename_i h2
      exact ⟨h1, k, r, rfl, h2, (Option.some.inj e_1).symm⟩
    · cases e_1
  · cases e
theorem iv_cpy_s {z : iv_Z} {mi pc idx : Nat} {al : iv_L} {st : List Value} {h : iv_H} {o : iv_O} (e : iv_op z mi pc (.invokestatic idx) al st h = some o) : (iv_cp (iv_kf mi) idx = true ∧ ∃ (n dp : Int32) (b : Nat) (sp : Int32) (a : Nat) (r : List Value) (q u : Nat × Nat × (Nat → Int32)), st = .int n :: .int dp :: .ref b :: .int sp :: .ref a :: r ∧ h[a]? = some (.inr (q.1, q.2.1, .inl q.2.2)) ∧ h[b]? = some (.inr (u.1, u.2.1, .inl u.2.2)) ∧ ¬ sp < 0 ∧ ¬ dp < 0 ∧ ¬ n < 0 ∧ sp.toNatClampNeg + n.toNatClampNeg ≤ q.2.1 ∧ dp.toNatClampNeg + n.toNatClampNeg ≤ u.2.1 ∧ iv_ty[q.1]? = some .int ∧ iv_ty[u.1]? = some .int ∧ (r.map fun v => v.category).sum ≤ 8 ∧
    o = (pc + 3, al, r, some (some b, .inr (u.1, u.2.1, .inl (va_cpy q.2.2 u.2.2 sp.toNatClampNeg dp.toNatClampNeg n.toNatClampNeg))))) ∨
    (¬ iv_cp (iv_kf mi) idx = true ∧ iv_mm (iv_kf mi) idx = true ∧ ∃ (y x : Int32) (r : List Value), st = .int y :: .int x :: r ∧ (r.map fun v => v.category).sum ≤ 8 ∧ o = (pc + 3, al, .int (if y < x then y else x) :: r, none)) ∨
    (¬ iv_cp (iv_kf mi) idx = true ∧ ¬ iv_mm (iv_kf mi) idx = true ∧ iv_ma (iv_kf mi) idx = true ∧ ∃ (y x : Int32) (r : List Value), st = .int y :: .int x :: r ∧ (r.map fun v => v.category).sum ≤ 8 ∧ o = (pc + 3, al, .int (if x < y then y else x) :: r, none)) ∨
    (¬ iv_cp (iv_kf mi) idx = true ∧ iv_ab (iv_kf mi) idx = true ∧ ∃ (x : Int32) (r : List Value), st = .int x :: r ∧ (r.map fun v => v.category).sum ≤ 8 ∧ o = (pc + 3, al, .int (if 0 ≤ x then x else 0 - x) :: r, none)) ∨
    (¬ iv_cp (iv_kf mi) idx = true ∧ iv_lb (iv_kf mi) idx = true ∧ ∃ (x : Int64) (r : List Value), st = .long x :: r ∧ (r.map fun v => v.category).sum ≤ 8 ∧ o = (pc + 3, al, .long (if 0 < x then x else -x) :: r, none)) ∨
    id_jc mi pc idx al st = some o := by
  simp only [iv_op, iv_sem] at e
  split at e
  · rename_i h1
    refine Or.inl ⟨h1, ?_⟩
    unfold iv_cpy at e
    obtain ⟨n, r4, rfl, e_1⟩ := iv_i_s e
    obtain ⟨dp, r3, rfl, e_2⟩ := iv_i_s e_1
    obtain ⟨b, r2, rfl, e_3⟩ := iv_r_s e_2
    obtain ⟨sp, r1, rfl, e_4⟩ := iv_i_s e_3
    obtain ⟨a, r, rfl, e_5⟩ := iv_r_s e_4
    obtain ⟨q, e1, e_6⟩ := Option.bind_eq_some_iff.mp e_5
    obtain ⟨u, e2, e_7⟩ := Option.bind_eq_some_iff.mp e_6
    split at e_7
    · rename_i hc
      obtain ⟨c1, c2, c3, c4, c5, c6, c7, c8⟩ := hc
      exact ⟨n, dp, b, sp, a, r, q, u, rfl, iv_ai_s e1, iv_ai_s e2, Int32.not_lt.mpr c1, Int32.not_lt.mpr c2, Int32.not_lt.mpr c3, c4, c5, iv_is_s c6, iv_is_s c7, c8, (Option.some.inj e_7).symm⟩
    · cases e_7
  · rename_i h0
    split at e
    · rename_i h1
      unfold iv_min at e
      obtain ⟨y, r1, rfl, e_1⟩ := iv_i_s e
      obtain ⟨x, r, rfl, e_2⟩ := iv_i_s e_1
      split at e_2
      · rename_i h8
        exact Or.inr (Or.inl ⟨h0, h1, y, x, r, rfl, h8, iv_pi_s e_2⟩)
      · cases e_2
    · rename_i h1
      split at e
      · rename_i h2
        unfold iv_max at e
        obtain ⟨y, r1, rfl, e_1⟩ := iv_i_s e
        obtain ⟨x, r, rfl, e_2⟩ := iv_i_s e_1
        split at e_2
        · rename_i h8
          exact Or.inr (Or.inr (Or.inl ⟨h0, h1, h2, y, x, r, rfl, h8, iv_pi_s e_2⟩))
        · cases e_2
      · split at e
        · rename_i h3
          unfold iv_abi at e
          obtain ⟨x, r, rfl, e_1⟩ := iv_i_s e
          split at e_1
          · rename_i h8
            exact Or.inr (Or.inr (Or.inr (Or.inl ⟨h0, h3, x, r, rfl, h8, iv_pi_s e_1⟩)))
          · cases e_1
        · split at e
          · rename_i h4
            unfold iv_abl at e
            obtain ⟨x, r, rfl, e_1⟩ := iv_j_s e
            split at e_1
            · rename_i h8
              exact Or.inr (Or.inr (Or.inr (Or.inr (Or.inl ⟨h0, h4, x, r, rfl, h8, iv_pj_s e_1⟩))))
            · cases e_1
          · exact Or.inr (Or.inr (Or.inr (Or.inr (Or.inr e))))
end
section
/-! RUNS: calls and returns -/
def iv_cc (op : Jvm.ClassFile.Instr) : Option (Nat × Nat) := match op with
  | .invokevirtual idx => some (0, idx)
  | .invokespecial idx => some (1, idx)
  | .invokestatic idx => some (2, idx)
  | _ => none
def iv_isr (op : Jvm.ClassFile.Instr) : Bool := match op with
  | .return_ => true
  | .ireturn => true
  | .lreturn => true
  | .areturn => true
  | _ => false
def iv_rq (ty : Option FieldType) : Bool := match ty with
  | some (.object _) => true
  | some (.array _) => true
  | _ => false
def iv_ro (ty : Option FieldType) (v : Value) : Bool := match ty with
  | some t => iv_ok t v
  | none => false
def iv_re (mi : Nat) (op : Jvm.ClassFile.Instr) (st : List Value) : Option (Option Value) := match op with
  | .return_ => match st with
    | [] => if iv_rt mi = none then some none else none
    | _ => none
  | .ireturn => match st with
    | [.int x] => if iv_ro (iv_rt mi) (.int x) = true then some (some (.int x)) else none
    | _ => none
  | .lreturn => match st with
    | [.long x] => if iv_ro (iv_rt mi) (.long x) = true then some (some (.long x)) else none
    | _ => none
  | .areturn => match st with
    | [.ref x] => if iv_rq (iv_rt mi) = true then some (some (.ref x)) else none
    | _ => none
  | _ => none
def iv_ex : List Value → iv_L
  | [] => []
  | v :: r => if v.category = 2 then some v :: none :: iv_ex r else some v :: iv_ex r
def iv_en (mj : Nat) (vs : List Value) : iv_L := iv_ex vs ++ List.replicate (iv_mx mj - (iv_ex vs).length) none
def iv_nr (vs : List Value) : Bool := vs.all fun v => match v with
  | .retAddr _ => false
  | _ => true
def iv_oc (h : iv_H) (b ci : Nat) : Bool := match h[b]? with
  | some (.inl o) => decide (o.1 = ci)
  | _ => false
def iv_rx (mj : Nat) : Nat := match iv_rc mj with
  | none => 1
  | some _ => 0
theorem iv_rx_n {mj : Nat} (h : iv_rc mj = none) : iv_rx mj = 1 := by unfold iv_rx; rw [h]
theorem iv_rx_s {mj ci : Nat} (h : iv_rc mj = some ci) : iv_rx mj = 0 := by unfold iv_rx; rw [h]
/-- a call: the callee, its arguments, the stack below -/
def iv_ca (mi : Nat) (op : Jvm.ClassFile.Instr) (st : List Value) (h : iv_H) : Option (Nat × List Value × List Value) := match iv_cc op with
  | none => none
  | some q => match iv_mt (iv_kf mi) q.2 with
    | none => none
    | some mj => if ((st.take (iv_na mj)).length = iv_na mj ∧ iv_nr (st.take (iv_na mj)) = true ∧ (iv_ex (st.take (iv_na mj)).reverse).length + 1 ≤ iv_mx mj + iv_rx mj) then
        (if q.1 = 2 then (if iv_rc mj = none ∧ iv_ini mj = false ∧ ((st.drop (iv_na mj)).map fun v => v.category).sum ≤ 8 then some (mj, (st.take (iv_na mj)).reverse, st.drop (iv_na mj)) else none)
        else iv_r (st.drop (iv_na mj)) fun b rest => match iv_rc mj with
          | none => none
          | some ci => if iv_oc h b ci = true ∧ (rest.map fun v => v.category).sum ≤ 8 ∧ iv_ini mj = decide (q.1 = 1) ∧ (q.1 = 1 ∨ iv_nn (iv_kf mi) q.2 = none) then some (mj, .ref b :: (st.take (iv_na mj)).reverse, rest) else none)
      else none
/-- n: fuel; d: depth of calls -/
def iv_run (z : iv_Z) : Nat → Nat → Nat → iv_S → Option (Option Value × iv_H)
  | 0, _, _, _ => none
  | n + 1, d, mi, S => match iv_cd mi S.1 with
    | none => none
    | some op => if iv_isr op = true then (iv_re mi op S.2.2.1).map fun v => (v, S.2.2.2)
      else match iv_ca mi op S.2.2.1 S.2.2.2 with
        | some c => match d with
          | 0 => none
          | d' + 1 => match iv_run none n d' c.1 (0, iv_en c.1 c.2.1, [], S.2.2.2) with
            | none => none
            | some q => iv_run z n (d' + 1) mi (S.1 + 3, S.2.1, q.1.toList ++ c.2.2, q.2)
        | none => match iv_op z mi S.1 op S.2.1 S.2.2.1 S.2.2.2 with
          | none => none
          | some o => match iv_ef S.2.2.2 o.2.2.2 with
            | none => none
            | some h' => iv_run z n d mi (o.1, o.2.1, o.2.2.1, h')
end
section
theorem iv_run_mono : ∀ (n : Nat) (z : iv_Z) (d mi : Nat) (S : iv_S) (r : Option Value × iv_H), iv_run z n d mi S = some r → iv_run z (n + 1) d mi S = some r := by
  intro n
  induction n with
  | zero => intro z d mi S r h; cases h
  | succ n ih =>
    intro z d mi S r h
    unfold iv_run at h ⊢
    cases hcd : iv_cd mi S.1 with
    | none => rw [hcd] at h; cases h
    | some op =>
      rw [hcd] at h
      dsimp only at h ⊢
      by_cases hr : iv_isr op = true
      · rw [if_pos hr] at h ⊢
        exact h
      · rw [if_neg hr] at h ⊢
        cases hca : iv_ca mi op S.2.2.1 S.2.2.2 with
        | some c =>
          rw [hca] at h
          dsimp only at h ⊢
          cases d with
          | zero => cases h
          | succ d' =>
            dsimp only at h ⊢
            cases hq : iv_run none n d' c.1 (0, iv_en c.1 c.2.1, [], S.2.2.2) with
            | none => rw [hq] at h; cases h
            | some q =>
              rw [hq] at h
              rw [ih _ _ _ _ _ hq]
              exact ih _ _ _ _ _ h
        | none =>
          rw [hca] at h
          dsimp only at h ⊢
          cases ho : iv_op z mi S.1 op S.2.1 S.2.2.1 S.2.2.2 with
          | none => rw [ho] at h; cases h
          | some o =>
            rw [ho] at h
            dsimp only at h ⊢
            cases he : iv_ef S.2.2.2 o.2.2.2 with
            | none => rw [he] at h; cases h
            | some h' =>
              rw [he] at h
              exact ih _ _ _ _ _ h
theorem iv_run_up {n m : Nat} {z : iv_Z} {d mi : Nat} {S : iv_S} {r : Option Value × iv_H} (h : iv_run z n d mi S = some r) (hm : n ≤ m) : iv_run z m d mi S = some r := by
  obtain ⟨k, rfl⟩ : ∃ k, m = n + k := ⟨m - n, by omega⟩
  clear hm
  induction k with
  | zero => exact h
  | succ k ih => exact iv_run_mono _ _ _ _ _ _ ih
theorem iv_rs {z : iv_Z} {n d mi pc : Nat} {al : iv_L} {st : List Value} {h h' : iv_H} {op : Jvm.ClassFile.Instr} {o : iv_O} {r : Option Value × iv_H} (hcd : iv_cd mi pc = some op) (hr : iv_isr op = false) (hca : iv_ca mi op st h = none) (hop : iv_op z mi pc op al st h = some o) (hef : iv_ef h o.2.2.2 = some h') (k : iv_run z n d mi (o.1, o.2.1, o.2.2.1, h') = some r) : iv_run z (n + 1) d mi (pc, al, st, h) = some r := by
  unfold iv_run
  dsimp only
  rw [hcd]
  dsimp only
  rw [if_neg (by rw [hr]; decide), hca]
  dsimp only
  rw [hop]
  dsimp only
  rw [hef]
  exact k
theorem iv_gf_o {z : iv_Z} {mi pc idx k : Nat} {al : iv_L} {st : List Value} {h : iv_H} {v : Value} (e : iv_gf mi idx h k = some v) : iv_op z mi pc (.getfield idx) al (.ref k :: st) h = some (pc + 3, al, v :: st, none) := by
  show (iv_gf mi idx h k).bind _ = _
  rw [e]
  rfl
theorem iv_gf_at {mi idx k ci j : Nat} {h : iv_H} {fs : List Value} (h1 : iv_fd (iv_kf mi) idx = some (ci, j)) (h2 : h[k]? = some (.inl (ci, fs))) : iv_gf mi idx h k = fs[j]? := by
  unfold iv_gf
  rw [h1, h2]
  dsimp only
  rw [if_pos rfl]
theorem iv_set_self {α : Type} {l : List α} {i : Nat} {a : α} (h : l[i]? = some a) : l.set i a = l := by
  apply List.ext_getElem?
  intro j
  rw [List.getElem?_set]
  split
  · rename_i e
    subst e
    rw [if_pos (List.getElem?_eq_some_iff.mp h).1, h]
  · rfl
end
section
/-! THE WORLD behind both constructors: shapes (arrays: type and length; objects: 100 and class, fields), references; printed by a program that runs the constructors in plain; held against them in the end -/
def fx_N : Nat := 246
def fx_shT : iv_Tr (Nat × Nat) 8 := (iv_nd (iv_nd (iv_nd (iv_nd (iv_nd (iv_nd (iv_nd (iv_nd (some (109, 8)) (some (106, 9))) (iv_nd (some (0, 288)) (some (0, 27)))) (iv_nd (iv_nd (some (0, 12)) (some (0, 8))) (iv_nd (some (105, 8)) (some (0, 72))))) (iv_nd (iv_nd (iv_nd (some (0, 72)) (some (0, 9))) (iv_nd (some (0, 9)) (some (0, 9)))) (iv_nd (iv_nd (some (0, 18)) (some (0, 18))) (iv_nd (some (108, 2)) (some (0, 200)))))) (iv_nd (iv_nd (iv_nd (iv_nd (some (103, 3)) (some (5, 8))) (iv_nd (some (106, 9)) (some (0, 288)))) (iv_nd (iv_nd (some (0, 27)) (some (0, 12))) (iv_nd (some (0, 8)) (some (106, 9))))) (iv_nd (iv_nd (iv_nd (some (0, 288)) (some (0, 27))) (iv_nd (some (0, 12)) (some (0, 8)))) (iv_nd (iv_nd (some (106, 9)) (some (0, 288))) (iv_nd (some (0, 27)) (some (0, 12))))))) (iv_nd (iv_nd (iv_nd (iv_nd (iv_nd (some (0, 8)) (some (106, 9))) (iv_nd (some (0, 288)) (some (0, 27)))) (iv_nd (iv_nd (some (0, 12)) (some (0, 8))) (iv_nd (some (106, 9)) (some (0, 288))))) (iv_nd (iv_nd (iv_nd (some (0, 27)) (some (0, 12))) (iv_nd (some (0, 8)) (some (106, 9)))) (iv_nd (iv_nd (some (0, 288)) (some (0, 27))) (iv_nd (some (0, 12)) (some (0, 8)))))) (iv_nd (iv_nd (iv_nd (iv_nd (some (106, 9)) (some (0, 288))) (iv_nd (some (0, 27)) (some (0, 12)))) (iv_nd (iv_nd (some (0, 8)) (some (106, 9))) (iv_nd (some (0, 288)) (some (0, 27))))) (iv_nd (iv_nd (iv_nd (some (0, 12)) (some (0, 8))) (iv_nd (some (104, 7)) (some (0, 96)))) (iv_nd (iv_nd (some (100, 3)) (some (0, 9))) (iv_nd (some (101, 11)) (some (0, 4)))))))) (iv_nd (iv_nd (iv_nd (iv_nd (iv_nd (iv_nd (some (0, 8)) (some (0, 32))) (iv_nd (some (0, 4)) (some (0, 4)))) (iv_nd (iv_nd (some (0, 8)) (some (0, 288))) (iv_nd (some (4, 3)) (some (102, 13))))) (iv_nd (iv_nd (iv_nd (some (0, 8)) (some (0, 96))) (iv_nd (some (107, 8)) (some (0, 8)))) (iv_nd (iv_nd (some (0, 8)) (some (0, 8))) (iv_nd (some (0, 72)) (some (0, 72)))))) (iv_nd (iv_nd (iv_nd (iv_nd (some (0, 72)) (some (0, 72))) (iv_nd (some (0, 72)) (some (107, 8)))) (iv_nd (iv_nd (some (0, 8)) (some (0, 8))) (iv_nd (some (0, 8)) (some (0, 72))))) (iv_nd (iv_nd (iv_nd (some (0, 72)) (some (0, 72))) (iv_nd (some (0, 72)) (some (0, 72)))) (iv_nd (iv_nd (some (107, 8)) (some (0, 8))) (iv_nd (some (0, 8)) (some (0, 8))))))) (iv_nd (iv_nd (iv_nd (iv_nd (iv_nd (some (0, 72)) (some (0, 72))) (iv_nd (some (0, 72)) (some (0, 72)))) (iv_nd (iv_nd (some (0, 72)) (some (107, 8))) (iv_nd (some (0, 8)) (some (0, 8))))) (iv_nd (iv_nd (iv_nd (some (0, 8)) (some (0, 72))) (iv_nd (some (0, 72)) (some (0, 72)))) (iv_nd (iv_nd (some (0, 72)) (some (0, 72))) (iv_nd (some (107, 8)) (some (0, 8)))))) (iv_nd (iv_nd (iv_nd (iv_nd (some (0, 8)) (some (0, 8))) (iv_nd (some (0, 72)) (some (0, 72)))) (iv_nd (iv_nd (some (0, 72)) (some (0, 72))) (iv_nd (some (0, 72)) (some (102, 13))))) (iv_nd (iv_nd (iv_nd (some (0, 8)) (some (0, 96))) (iv_nd (some (107, 8)) (some (0, 8)))) (iv_nd (iv_nd (some (0, 8)) (some (0, 8))) (iv_nd (some (0, 72)) (some (0, 72))))))))) (iv_nd (iv_nd (iv_nd (iv_nd (iv_nd (iv_nd (iv_nd (some (0, 72)) (some (0, 72))) (iv_nd (some (0, 72)) (some (107, 8)))) (iv_nd (iv_nd (some (0, 8)) (some (0, 8))) (iv_nd (some (0, 8)) (some (0, 72))))) (iv_nd (iv_nd (iv_nd (some (0, 72)) (some (0, 72))) (iv_nd (some (0, 72)) (some (0, 72)))) (iv_nd (iv_nd (some (107, 8)) (some (0, 8))) (iv_nd (some (0, 8)) (some (0, 8)))))) (iv_nd (iv_nd (iv_nd (iv_nd (some (0, 72)) (some (0, 72))) (iv_nd (some (0, 72)) (some (0, 72)))) (iv_nd (iv_nd (some (0, 72)) (some (107, 8))) (iv_nd (some (0, 8)) (some (0, 8))))) (iv_nd (iv_nd (iv_nd (some (0, 8)) (some (0, 72))) (iv_nd (some (0, 72)) (some (0, 72)))) (iv_nd (iv_nd (some (0, 72)) (some (0, 72))) (iv_nd (some (107, 8)) (some (0, 8))))))) (iv_nd (iv_nd (iv_nd (iv_nd (iv_nd (some (0, 8)) (some (0, 8))) (iv_nd (some (0, 72)) (some (0, 72)))) (iv_nd (iv_nd (some (0, 72)) (some (0, 72))) (iv_nd (some (0, 72)) (some (102, 13))))) (iv_nd (iv_nd (iv_nd (some (0, 8)) (some (0, 96))) (iv_nd (some (107, 8)) (some (0, 8)))) (iv_nd (iv_nd (some (0, 8)) (some (0, 8))) (iv_nd (some (0, 72)) (some (0, 72)))))) (iv_nd (iv_nd (iv_nd (iv_nd (some (0, 72)) (some (0, 72))) (iv_nd (some (0, 72)) (some (107, 8)))) (iv_nd (iv_nd (some (0, 8)) (some (0, 8))) (iv_nd (some (0, 8)) (some (0, 72))))) (iv_nd (iv_nd (iv_nd (some (0, 72)) (some (0, 72))) (iv_nd (some (0, 72)) (some (0, 72)))) (iv_nd (iv_nd (some (107, 8)) (some (0, 8))) (iv_nd (some (0, 8)) (some (0, 8)))))))) (iv_nd (iv_nd (iv_nd (iv_nd (iv_nd (iv_nd (some (0, 72)) (some (0, 72))) (iv_nd (some (0, 72)) (some (0, 72)))) (iv_nd (iv_nd (some (0, 72)) (some (107, 8))) (iv_nd (some (0, 8)) (some (0, 8))))) (iv_nd (iv_nd (iv_nd (some (0, 8)) (some (0, 72))) (iv_nd (some (0, 72)) (some (0, 72)))) (iv_nd (iv_nd (some (0, 72)) (some (0, 72))) (iv_nd (some (107, 8)) (some (0, 8)))))) (iv_nd (iv_nd (iv_nd (iv_nd (some (0, 8)) (some (0, 8))) (iv_nd (some (0, 72)) (some (0, 72)))) (iv_nd (iv_nd (some (0, 72)) (some (0, 72))) (iv_nd (some (0, 72)) (some (110, 47))))) (iv_nd (iv_nd (iv_nd (some (0, 340)) (some (0, 2720))) (iv_nd (some (3, 200)) (some (0, 96)))) (iv_nd (iv_nd (some (0, 9)) (some (1, 8))) (iv_nd (some (0, 72)) (some (0, 8))))))) (iv_nd (iv_nd (iv_nd (iv_nd (iv_nd (some (1, 72)) (some (1, 72))) (iv_nd (some (1, 8)) (some (1, 9)))) (iv_nd (iv_nd (some (1, 9)) (some (1, 9))) (iv_nd (some (1, 9)) (some (1, 8))))) (iv_nd (iv_nd (iv_nd (some (2, 72)) (some (2, 72))) (iv_nd (some (2, 72)) (some (2, 9)))) (iv_nd (iv_nd (some (0, 8)) (some (0, 5))) (iv_nd (some (0, 4)) (some (0, 9)))))) (iv_nd (iv_nd (iv_nd (iv_nd (some (1, 96)) (some (1, 96))) (iv_nd (some (0, 32)) (some (0, 4)))) (iv_nd (iv_nd (some (0, 4)) (some (0, 27))) (iv_em 1))) (iv_em 3))))))
def fx_sh (k : Nat) : Nat × Nat := bif Nat.ble 256 k then (99, 0) else (iv_tl 8 fx_shT k).getD (99, 0)
def fx_rfT : iv_Tr Nat 14 := (iv_nd (iv_nd (iv_nd (iv_nd (iv_nd (iv_nd (iv_nd (iv_nd (iv_nd (iv_nd (iv_nd (iv_nd (iv_nd (iv_nd (some 14) (some 1)) (iv_nd (some 16) (some 58))) (iv_nd (iv_nd (some 60) (some 62)) (iv_nd (some 70) (some 69)))) (iv_em 3)) (iv_em 4)) (iv_em 5)) (iv_nd (iv_nd (iv_nd (iv_nd (iv_nd (iv_nd (some 2) (some 3)) (iv_nd (some 4) (some 5))) (iv_em 2)) (iv_em 3)) (iv_em 4)) (iv_em 5))) (iv_em 7)) (iv_nd (iv_em 7) (iv_nd (iv_nd (iv_nd (iv_nd (iv_nd (iv_nd (iv_nd (some 7) (some 8)) (iv_nd (some 9) (some 10))) (iv_nd (iv_nd (some 11) (some 12)) (iv_nd (some 13) (iv_em 0)))) (iv_em 3)) (iv_em 4)) (iv_em 5)) (iv_em 6)))) (iv_nd (iv_em 8) (iv_nd (iv_em 7) (iv_nd (iv_nd (iv_nd (iv_nd (iv_nd (iv_nd (iv_nd (some 15) (iv_em 0)) (iv_em 1)) (iv_em 2)) (iv_em 3)) (iv_em 4)) (iv_em 5)) (iv_em 6))))) (iv_nd (iv_nd (iv_nd (iv_nd (iv_nd (iv_nd (iv_nd (iv_nd (iv_nd (iv_nd (some 17) (iv_em 0)) (iv_em 1)) (iv_em 2)) (iv_em 3)) (iv_em 4)) (iv_em 5)) (iv_nd (iv_nd (iv_nd (iv_nd (iv_nd (iv_nd (some 18) (some 23)) (iv_nd (some 28) (some 33))) (iv_nd (iv_nd (some 38) (some 43)) (iv_nd (some 48) (some 53)))) (iv_em 3)) (iv_em 4)) (iv_em 5))) (iv_nd (iv_nd (iv_nd (iv_nd (iv_nd (iv_nd (iv_nd (some 19) (some 20)) (iv_nd (some 21) (some 22))) (iv_em 2)) (iv_em 3)) (iv_em 4)) (iv_em 5)) (iv_em 6))) (iv_nd (iv_em 7) (iv_nd (iv_em 6) (iv_nd (iv_nd (iv_nd (iv_nd (iv_nd (iv_nd (some 24) (some 25)) (iv_nd (some 26) (some 27))) (iv_em 2)) (iv_em 3)) (iv_em 4)) (iv_em 5))))) (iv_nd (iv_em 8) (iv_nd (iv_nd (iv_nd (iv_nd (iv_nd (iv_nd (iv_nd (iv_nd (some 29) (some 30)) (iv_nd (some 31) (some 32))) (iv_em 2)) (iv_em 3)) (iv_em 4)) (iv_em 5)) (iv_em 6)) (iv_em 7))))) (iv_nd (iv_nd (iv_nd (iv_nd (iv_nd (iv_em 6) (iv_nd (iv_nd (iv_nd (iv_nd (iv_nd (iv_nd (some 34) (some 35)) (iv_nd (some 36) (some 37))) (iv_em 2)) (iv_em 3)) (iv_em 4)) (iv_em 5))) (iv_em 7)) (iv_nd (iv_em 7) (iv_nd (iv_nd (iv_nd (iv_nd (iv_nd (iv_nd (iv_nd (some 39) (some 40)) (iv_nd (some 41) (some 42))) (iv_em 2)) (iv_em 3)) (iv_em 4)) (iv_em 5)) (iv_em 6)))) (iv_nd (iv_nd (iv_em 7) (iv_nd (iv_em 6) (iv_nd (iv_nd (iv_nd (iv_nd (iv_nd (iv_nd (some 44) (some 45)) (iv_nd (some 46) (some 47))) (iv_em 2)) (iv_em 3)) (iv_em 4)) (iv_em 5)))) (iv_em 8))) (iv_nd (iv_nd (iv_nd (iv_nd (iv_nd (iv_nd (iv_nd (iv_nd (iv_nd (iv_nd (some 49) (some 50)) (iv_nd (some 51) (some 52))) (iv_em 2)) (iv_em 3)) (iv_em 4)) (iv_em 5)) (iv_em 6)) (iv_em 7)) (iv_nd (iv_nd (iv_em 6) (iv_nd (iv_nd (iv_nd (iv_nd (iv_nd (iv_nd (some 54) (some 55)) (iv_nd (some 56) (some 57))) (iv_em 2)) (iv_em 3)) (iv_em 4)) (iv_em 5))) (iv_em 7))) (iv_nd (iv_nd (iv_em 7) (iv_nd (iv_nd (iv_nd (iv_nd (iv_nd (iv_nd (iv_nd (some 59) (iv_em 0)) (iv_em 1)) (iv_em 2)) (iv_em 3)) (iv_em 4)) (iv_em 5)) (iv_em 6))) (iv_nd (iv_nd (iv_nd (iv_nd (iv_nd (iv_nd (iv_nd (iv_nd (some 61) (iv_em 0)) (iv_em 1)) (iv_em 2)) (iv_em 3)) (iv_em 4)) (iv_em 5)) (iv_em 6)) (iv_nd (iv_nd (iv_nd (iv_nd (iv_nd (iv_nd (iv_nd (some 63) (iv_em 0)) (iv_nd (iv_em 0) (some 64))) (iv_nd (iv_nd (some 65) (some 66)) (iv_nd (some 67) (some 68)))) (iv_em 3)) (iv_em 4)) (iv_em 5)) (iv_em 6))))))) (iv_nd (iv_nd (iv_nd (iv_nd (iv_em 8) (iv_nd (iv_em 7) (iv_nd (iv_nd (iv_nd (iv_nd (iv_nd (iv_nd (iv_nd (some 71) (some 119)) (iv_nd (some 167) (iv_em 0))) (iv_em 2)) (iv_em 3)) (iv_em 4)) (iv_em 5)) (iv_nd (iv_nd (iv_nd (iv_nd (iv_nd (iv_nd (some 72) (some 73)) (iv_nd (some 74) (some 83))) (iv_nd (iv_nd (some 92) (some 101)) (iv_em 1))) (iv_nd (iv_nd (iv_em 1) (iv_nd (some 1) (some 6))) (iv_nd (iv_nd (some 110) (iv_em 0)) (iv_em 1)))) (iv_em 4)) (iv_em 5))))) (iv_nd (iv_nd (iv_em 7) (iv_nd (iv_nd (iv_nd (iv_nd (iv_nd (iv_nd (iv_nd (some 75) (some 76)) (iv_nd (some 77) (some 78))) (iv_nd (iv_nd (some 79) (some 80)) (iv_nd (some 81) (some 82)))) (iv_em 3)) (iv_em 4)) (iv_em 5)) (iv_em 6))) (iv_em 8))) (iv_nd (iv_nd (iv_nd (iv_em 7) (iv_nd (iv_em 6) (iv_nd (iv_nd (iv_nd (iv_nd (iv_nd (iv_nd (some 84) (some 85)) (iv_nd (some 86) (some 87))) (iv_nd (iv_nd (some 88) (some 89)) (iv_nd (some 90) (some 91)))) (iv_em 3)) (iv_em 4)) (iv_em 5)))) (iv_em 8)) (iv_nd (iv_em 8) (iv_nd (iv_nd (iv_nd (iv_nd (iv_nd (iv_nd (iv_nd (iv_nd (some 93) (some 94)) (iv_nd (some 95) (some 96))) (iv_nd (iv_nd (some 97) (some 98)) (iv_nd (some 99) (some 100)))) (iv_em 3)) (iv_em 4)) (iv_em 5)) (iv_em 6)) (iv_em 7))))) (iv_nd (iv_nd (iv_nd (iv_em 8) (iv_nd (iv_nd (iv_em 6) (iv_nd (iv_nd (iv_nd (iv_nd (iv_nd (iv_nd (some 102) (some 103)) (iv_nd (some 104) (some 105))) (iv_nd (iv_nd (some 106) (some 107)) (iv_nd (some 108) (some 109)))) (iv_em 3)) (iv_em 4)) (iv_em 5))) (iv_em 7))) (iv_nd (iv_em 8) (iv_nd (iv_em 7) (iv_nd (iv_nd (iv_nd (iv_nd (iv_nd (iv_nd (iv_nd (some 111) (some 112)) (iv_nd (some 113) (some 114))) (iv_nd (iv_nd (some 115) (some 116)) (iv_nd (some 117) (some 118)))) (iv_em 3)) (iv_em 4)) (iv_em 5)) (iv_em 6))))) (iv_nd (iv_nd (iv_em 8) (iv_nd (iv_em 7) (iv_nd (iv_em 6) (iv_nd (iv_nd (iv_nd (iv_nd (iv_nd (iv_nd (some 120) (some 121)) (iv_nd (some 122) (some 131))) (iv_nd (iv_nd (some 140) (some 149)) (iv_em 1))) (iv_nd (iv_nd (iv_em 1) (iv_nd (some 1) (some 6))) (iv_nd (iv_nd (some 158) (iv_em 0)) (iv_em 1)))) (iv_em 4)) (iv_em 5))))) (iv_nd (iv_nd (iv_em 7) (iv_nd (iv_nd (iv_nd (iv_nd (iv_nd (iv_nd (iv_nd (some 123) (some 124)) (iv_nd (some 125) (some 126))) (iv_nd (iv_nd (some 127) (some 128)) (iv_nd (some 129) (some 130)))) (iv_em 3)) (iv_em 4)) (iv_em 5)) (iv_em 6))) (iv_em 8)))))) (iv_nd (iv_nd (iv_nd (iv_nd (iv_nd (iv_nd (iv_em 7) (iv_nd (iv_em 6) (iv_nd (iv_nd (iv_nd (iv_nd (iv_nd (iv_nd (some 132) (some 133)) (iv_nd (some 134) (some 135))) (iv_nd (iv_nd (some 136) (some 137)) (iv_nd (some 138) (some 139)))) (iv_em 3)) (iv_em 4)) (iv_em 5)))) (iv_em 8)) (iv_nd (iv_em 8) (iv_nd (iv_nd (iv_nd (iv_nd (iv_nd (iv_nd (iv_nd (iv_nd (some 141) (some 142)) (iv_nd (some 143) (some 144))) (iv_nd (iv_nd (some 145) (some 146)) (iv_nd (some 147) (some 148)))) (iv_em 3)) (iv_em 4)) (iv_em 5)) (iv_em 6)) (iv_em 7)))) (iv_nd (iv_nd (iv_em 8) (iv_nd (iv_nd (iv_em 6) (iv_nd (iv_nd (iv_nd (iv_nd (iv_nd (iv_nd (some 150) (some 151)) (iv_nd (some 152) (some 153))) (iv_nd (iv_nd (some 154) (some 155)) (iv_nd (some 156) (some 157)))) (iv_em 3)) (iv_em 4)) (iv_em 5))) (iv_em 7))) (iv_nd (iv_em 8) (iv_nd (iv_em 7) (iv_nd (iv_nd (iv_nd (iv_nd (iv_nd (iv_nd (iv_nd (some 159) (some 160)) (iv_nd (some 161) (some 162))) (iv_nd (iv_nd (some 163) (some 164)) (iv_nd (some 165) (some 166)))) (iv_em 3)) (iv_em 4)) (iv_em 5)) (iv_em 6)))))) (iv_nd (iv_nd (iv_nd (iv_em 8) (iv_nd (iv_em 7) (iv_nd (iv_em 6) (iv_nd (iv_nd (iv_nd (iv_nd (iv_nd (iv_nd (some 168) (some 169)) (iv_nd (some 170) (some 179))) (iv_nd (iv_nd (some 188) (some 197)) (iv_em 1))) (iv_nd (iv_nd (iv_em 1) (iv_nd (some 1) (some 6))) (iv_nd (iv_nd (some 206) (iv_em 0)) (iv_em 1)))) (iv_em 4)) (iv_em 5))))) (iv_nd (iv_nd (iv_em 7) (iv_nd (iv_nd (iv_nd (iv_nd (iv_nd (iv_nd (iv_nd (some 171) (some 172)) (iv_nd (some 173) (some 174))) (iv_nd (iv_nd (some 175) (some 176)) (iv_nd (some 177) (some 178)))) (iv_em 3)) (iv_em 4)) (iv_em 5)) (iv_em 6))) (iv_em 8))) (iv_nd (iv_nd (iv_nd (iv_em 7) (iv_nd (iv_em 6) (iv_nd (iv_nd (iv_nd (iv_nd (iv_nd (iv_nd (some 180) (some 181)) (iv_nd (some 182) (some 183))) (iv_nd (iv_nd (some 184) (some 185)) (iv_nd (some 186) (some 187)))) (iv_em 3)) (iv_em 4)) (iv_em 5)))) (iv_em 8)) (iv_nd (iv_em 8) (iv_nd (iv_nd (iv_nd (iv_nd (iv_nd (iv_nd (iv_nd (iv_nd (some 189) (some 190)) (iv_nd (some 191) (some 192))) (iv_nd (iv_nd (some 193) (some 194)) (iv_nd (some 195) (some 196)))) (iv_em 3)) (iv_em 4)) (iv_em 5)) (iv_em 6)) (iv_em 7)))))) (iv_nd (iv_nd (iv_nd (iv_nd (iv_em 8) (iv_nd (iv_nd (iv_em 6) (iv_nd (iv_nd (iv_nd (iv_nd (iv_nd (iv_nd (some 198) (some 199)) (iv_nd (some 200) (some 201))) (iv_nd (iv_nd (some 202) (some 203)) (iv_nd (some 204) (some 205)))) (iv_em 3)) (iv_em 4)) (iv_em 5))) (iv_em 7))) (iv_nd (iv_em 8) (iv_nd (iv_em 7) (iv_nd (iv_nd (iv_nd (iv_nd (iv_nd (iv_nd (iv_nd (some 207) (some 208)) (iv_nd (some 209) (some 210))) (iv_nd (iv_nd (some 211) (some 212)) (iv_nd (some 213) (some 214)))) (iv_em 3)) (iv_em 4)) (iv_em 5)) (iv_em 6))))) (iv_nd (iv_nd (iv_em 8) (iv_nd (iv_em 7) (iv_nd (iv_em 6) (iv_nd (iv_nd (iv_nd (iv_nd (iv_nd (iv_nd (some 216) (some 217)) (iv_nd (iv_em 0) (some 218))) (iv_nd (iv_em 1) (iv_nd (iv_em 0) (some 219)))) (iv_nd (iv_nd (iv_em 1) (iv_nd (some 220) (iv_em 0))) (iv_nd (iv_nd (some 221) (some 222)) (iv_nd (some 223) (some 224))))) (iv_nd (iv_nd (iv_nd (iv_nd (some 225) (iv_em 0)) (iv_nd (iv_em 0) (some 226))) (iv_nd (iv_nd (some 227) (some 228)) (iv_nd (some 229) (some 230)))) (iv_nd (iv_nd (iv_nd (some 231) (some 232)) (iv_nd (some 233) (some 234))) (iv_nd (iv_nd (some 235) (iv_em 0)) (iv_nd (iv_em 0) (some 236)))))) (iv_nd (iv_nd (iv_nd (iv_nd (iv_nd (some 237) (some 238)) (iv_nd (some 239) (some 240))) (iv_nd (iv_nd (some 241) (some 242)) (iv_nd (some 243) (some 244)))) (iv_nd (iv_em 2) (iv_nd (iv_em 1) (iv_nd (some 245) (iv_em 0))))) (iv_em 4)))))) (iv_em 9))) (iv_em 11))))
def fx_rf (k j : Nat) : Nat := bif Nat.ble 64 j then 0 else bif Nat.ble 256 k then 0 else (iv_tl 14 fx_rfT (64 * k + j)).getD 0
def fx_nf (c : Nat) : Nat := match c with
  | 0 => 3
  | 1 => 11
  | 2 => 13
  | 3 => 3
  | 4 => 7
  | 5 => 8
  | 6 => 9
  | 7 => 8
  | 8 => 2
  | 9 => 8
  | 10 => 47
  | _ => 0
theorem fx_nf_all : (List.range fx_N).all (fun k => Nat.ble (fx_sh k).1 99 || Nat.beq (fx_sh k).2 (fx_nf ((fx_sh k).1 - 100))) = true := by decide +kernel
end
section
/-! STATES AS FUNCTIONS: what the cells hold: ints by cell and slot, longs by cell and slot; shapes and references stand fast (60.shape). A relation to numbered heaps; a run from a place of a method's code (fx_E); its rows. -/
abbrev fx_S : Type := (Nat → Nat → Int32) × (Nat → Nat → Int64)
def fx_w1 (σ : fx_S) (k j : Nat) (x : Int32) : fx_S := (fun a b => if a = k ∧ b = j then x else σ.1 a b, σ.2)
def fx_w2 (σ : fx_S) (k j : Nat) (x : Int64) : fx_S := (σ.1, fun a b => if a = k ∧ b = j then x else σ.2 a b)
def fx_fv (σ : fx_S) (k c j : Nat) : Value := match iv_ft c j with
  | .int => .int (σ.1 k j)
  | .boolean => .int (σ.1 k j)
  | .long => .long (σ.2 k j)
  | _ => .ref (fx_rf k j)
def fx_rc (σ : fx_S) (k : Nat) (c : iv_C) : Prop := match c with
  | .inl o => fx_sh k = (100 + o.1, o.2.length) ∧ ∀ j, j < o.2.length → o.2[j]? = some (fx_fv σ k o.1 j)
  | .inr (t, n, .inl f) => fx_sh k = (t, n) ∧ (t = 0 ∨ t = 2 ∨ t = 3) ∧ ∀ i, i < n → f i = σ.1 k i
  | .inr (t, n, .inr (.inl f)) => fx_sh k = (t, n) ∧ t = 1 ∧ ∀ i, i < n → f i = σ.2 k i
  | .inr (t, n, .inr (.inr (.inr (.inr f)))) => fx_sh k = (t, n) ∧ 4 ≤ t ∧ t < 99 ∧ ∀ i, i < n → f i = some (fx_rf k i)
  | _ => False
def fx_R (σ : fx_S) (h : iv_H) : Prop := h.length = fx_N ∧ ∀ k, k < fx_N → ∃ c, h[k]? = some c ∧ fx_rc σ k c
/-- an object of class ci; an array of type t with room for i -/
def fx_oc (k ci : Nat) : Bool := Nat.blt k fx_N && Nat.beq (fx_sh k).1 (100 + ci)
def fx_ok (t k : Nat) (i : Int32) : Bool := Nat.blt k fx_N && Nat.beq (fx_sh k).1 t && decide (0 ≤ i) && Nat.blt i.toNatClampNeg (fx_sh k).2
theorem fx_oc_s {k ci : Nat} (h : fx_oc k ci = true) : k < fx_N ∧ (fx_sh k).1 = 100 + ci := by
  simp only [fx_oc, Bool.and_eq_true] at h
  exact ⟨Nat.le_of_ble_eq_true h.1, Nat.eq_of_beq_eq_true h.2⟩
theorem fx_ok_s {t k : Nat} {i : Int32} (h : fx_ok t k i = true) : k < fx_N ∧ (fx_sh k).1 = t ∧ 0 ≤ i ∧ i.toNatClampNeg < (fx_sh k).2 := by
  simp only [fx_ok, Bool.and_eq_true, decide_eq_true_eq] at h
  exact ⟨Nat.le_of_ble_eq_true h.1.1.1, Nat.eq_of_beq_eq_true h.1.1.2, h.1.2, Nat.le_of_ble_eq_true h.2⟩
theorem fx_R_o {σ : fx_S} {h : iv_H} {k ci : Nat} (R : fx_R σ h) (g : fx_oc k ci = true) : ∃ fs : List Value, h[k]? = some (.inl (ci, fs)) ∧ fs.length = (fx_sh k).2 ∧ ∀ j, j < fs.length → fs[j]? = some (fx_fv σ k ci j) := by
  obtain ⟨g1, g2⟩ := fx_oc_s g
  obtain ⟨c, h1, h2⟩ := R.2 k g1
  match c, h2 with
  | .inl (c, fs), h2 =>
    obtain ⟨a1, a2⟩ := h2
    have e : 100 + c = 100 + ci := by rw [← g2, a1]
    have e2 : c = ci := by omega
    subst e2
    exact ⟨fs, h1, by rw [a1], a2⟩
  | .inr (t, n, .inl f), h2 => exact absurd (by rw [← g2, h2.1] : 100 + ci = t) (by rcases h2.2.1 with e | e | e <;> omega)
  | .inr (t, n, .inr (.inl f)), h2 => exact absurd (by rw [← g2, h2.1] : 100 + ci = t) (by have := h2.2.1; omega)
  | .inr (t, n, .inr (.inr (.inl f))), h2 => exact h2.elim
  | .inr (t, n, .inr (.inr (.inr (.inl f)))), h2 => exact h2.elim
  | .inr (t, n, .inr (.inr (.inr (.inr f)))), h2 => exact absurd (by rw [← g2, h2.1] : 100 + ci = t) (by have := h2.2.2.1; omega)
theorem fx_R_i {σ : fx_S} {h : iv_H} {t k : Nat} {i : Int32} (R : fx_R σ h) (g : fx_ok t k i = true) (ht : t = 0 ∨ t = 2 ∨ t = 3) : ∃ (n : Nat) (f : Nat → Int32), h[k]? = some (.inr (t, n, .inl f)) ∧ fx_sh k = (t, n) ∧ i.toNatClampNeg < n ∧ ∀ j, j < n → f j = σ.1 k j := by
  obtain ⟨g1, g2, g3, g4⟩ := fx_ok_s g
  obtain ⟨c, h1, h2⟩ := R.2 k g1
  match c, h2 with
  | .inl (c, fs), h2 => exact absurd (by rw [← g2, h2.1] : t = 100 + c) (by rcases ht with e | e | e <;> omega)
  | .inr (t', n, .inl f), h2 =>
    obtain ⟨a1, a2, a3⟩ := h2
    have e : t' = t := by rw [← g2, a1]
    subst e
    exact ⟨n, f, h1, a1, by rw [a1] at g4; exact g4, a3⟩
  | .inr (t', n, .inr (.inl f)), h2 => exact absurd (by rw [← g2, h2.1] : t = t') (by have := h2.2.1; rcases ht with e | e | e <;> omega)
  | .inr (t', n, .inr (.inr (.inl f))), h2 => exact h2.elim
  | .inr (t', n, .inr (.inr (.inr (.inl f)))), h2 => exact h2.elim
  | .inr (t', n, .inr (.inr (.inr (.inr f)))), h2 => exact absurd (by rw [← g2, h2.1] : t = t') (by have := h2.2.1; rcases ht with e | e | e <;> omega)
theorem fx_R_l {σ : fx_S} {h : iv_H} {k : Nat} {i : Int32} (R : fx_R σ h) (g : fx_ok 1 k i = true) : ∃ (n : Nat) (f : Nat → Int64), h[k]? = some (.inr (1, n, .inr (.inl f))) ∧ fx_sh k = (1, n) ∧ i.toNatClampNeg < n ∧ ∀ j, j < n → f j = σ.2 k j := by
  obtain ⟨g1, g2, g3, g4⟩ := fx_ok_s g
  obtain ⟨c, h1, h2⟩ := R.2 k g1
  match c, h2 with
  | .inl (c, fs), h2 => exact absurd (by rw [← g2, h2.1] : 1 = 100 + c) (by omega)
  | .inr (t', n, .inl f), h2 => exact absurd (by rw [← g2, h2.1] : 1 = t') (by rcases h2.2.1 with e | e | e <;> omega)
  | .inr (t', n, .inr (.inl f)), h2 =>
    obtain ⟨a1, a2, a3⟩ := h2
    subst a2
    exact ⟨n, f, h1, a1, by rw [a1] at g4; exact g4, a3⟩
  | .inr (t', n, .inr (.inr (.inl f))), h2 => exact h2.elim
  | .inr (t', n, .inr (.inr (.inr (.inl f)))), h2 => exact h2.elim
  | .inr (t', n, .inr (.inr (.inr (.inr f)))), h2 => exact absurd (by rw [← g2, h2.1] : 1 = t') (by have := h2.2.1; omega)
theorem fx_R_r {σ : fx_S} {h : iv_H} {t k : Nat} {i : Int32} (R : fx_R σ h) (g : fx_ok t k i = true) (ht : 4 ≤ t ∧ t < 99) : ∃ (n : Nat) (f : Nat → Option Nat), h[k]? = some (.inr (t, n, .inr (.inr (.inr (.inr f))))) ∧ fx_sh k = (t, n) ∧ i.toNatClampNeg < n ∧ ∀ j, j < n → f j = some (fx_rf k j) := by
  obtain ⟨g1, g2, g3, g4⟩ := fx_ok_s g
  obtain ⟨c, h1, h2⟩ := R.2 k g1
  match c, h2 with
  | .inl (c, fs), h2 => exact absurd (by rw [← g2, h2.1] : t = 100 + c) (by omega)
  | .inr (t', n, .inl f), h2 => exact absurd (by rw [← g2, h2.1] : t = t') (by rcases h2.2.1 with e | e | e <;> omega)
  | .inr (t', n, .inr (.inl f)), h2 => exact absurd (by rw [← g2, h2.1] : t = t') (by have := h2.2.1; omega)
  | .inr (t', n, .inr (.inr (.inl f))), h2 => exact h2.elim
  | .inr (t', n, .inr (.inr (.inr (.inl f)))), h2 => exact h2.elim
  | .inr (t', n, .inr (.inr (.inr (.inr f)))), h2 =>
    obtain ⟨a1, a2, a3, a4⟩ := h2
    have e : t' = t := by rw [← g2, a1]
    subst e
    exact ⟨n, f, h1, a1, by rw [a1] at g4; exact g4, a4⟩
/-- another cell's contents stay as they are -/
theorem fx_rc_1 {σ : fx_S} {k a j : Nat} {x : Int32} {c : iv_C} (h : fx_rc σ a c) (hk : a ≠ k) : fx_rc (fx_w1 σ k j x) a c := by
  have e : ∀ b, (fx_w1 σ k j x).1 a b = σ.1 a b := fun b => if_neg fun q => hk q.1
  match c, h with
  | .inl (c, fs), h =>
    refine ⟨h.1, fun i hi => (h.2 i hi).trans ?_⟩
    unfold fx_fv
    rw [e]
    rfl
  | .inr (t, n, .inl f), h => exact ⟨h.1, h.2.1, fun i hi => (h.2.2 i hi).trans (e i).symm⟩
  | .inr (t, n, .inr (.inl f)), h => exact h
  | .inr (t, n, .inr (.inr (.inl f))), h => exact h.elim
  | .inr (t, n, .inr (.inr (.inr (.inl f)))), h => exact h.elim
  | .inr (t, n, .inr (.inr (.inr (.inr f)))), h => exact h
theorem fx_rc_2 {σ : fx_S} {k a j : Nat} {x : Int64} {c : iv_C} (h : fx_rc σ a c) (hk : a ≠ k) : fx_rc (fx_w2 σ k j x) a c := by
  have e : ∀ b, (fx_w2 σ k j x).2 a b = σ.2 a b := fun b => if_neg fun q => hk q.1
  match c, h with
  | .inl (c, fs), h =>
    refine ⟨h.1, fun i hi => (h.2 i hi).trans ?_⟩
    unfold fx_fv
    rw [e]
    rfl
  | .inr (t, n, .inl f), h => exact h
  | .inr (t, n, .inr (.inl f)), h => exact ⟨h.1, h.2.1, fun i hi => (h.2.2 i hi).trans (e i).symm⟩
  | .inr (t, n, .inr (.inr (.inl f))), h => exact h.elim
  | .inr (t, n, .inr (.inr (.inr (.inl f)))), h => exact h.elim
  | .inr (t, n, .inr (.inr (.inr (.inr f)))), h => exact h
theorem fx_R_set {σ τ : fx_S} {h : iv_H} {k : Nat} {c : iv_C} (R : fx_R σ h) (hk : fx_rc τ k c) (ho : ∀ a c', a ≠ k → fx_rc σ a c' → fx_rc τ a c') : fx_R τ (h.set k c) := by
  refine ⟨by rw [List.length_set]; exact R.1, fun a ha => ?_⟩
  by_cases e : k = a
  · subst e
    exact ⟨c, by rw [List.getElem?_set_self (by rw [R.1]; exact ha)], hk⟩
  · obtain ⟨c', h1, h2⟩ := R.2 a ha
    exact ⟨c', by rw [List.getElem?_set_ne e]; exact h1, ho a c' (fun q => e q.symm) h2⟩
theorem fx_R_1 {σ : fx_S} {h : iv_H} {t k n i : Nat} {f : Nat → Int32} {x : Int32} (R : fx_R σ h) (hs : fx_sh k = (t, n)) (ht : t = 0 ∨ t = 2 ∨ t = 3) (hf : ∀ j, j < n → f j = σ.1 k j) : fx_R (fx_w1 σ k i x) (h.set k (.inr (t, n, .inl (upd f i x)))) := by
  refine fx_R_set R ⟨hs, ht, fun j hj => ?_⟩ fun a c' ha hc => fx_rc_1 hc ha
  show (if j = i then x else f j) = if k = k ∧ j = i then x else σ.1 k j
  by_cases e : j = i
  · rw [if_pos e, if_pos ⟨rfl, e⟩]
  · rw [if_neg e, if_neg fun q => e q.2]
    exact hf j hj
theorem fx_R_2 {σ : fx_S} {h : iv_H} {k n i : Nat} {f : Nat → Int64} {x : Int64} (R : fx_R σ h) (hs : fx_sh k = (1, n)) (hf : ∀ j, j < n → f j = σ.2 k j) : fx_R (fx_w2 σ k i x) (h.set k (.inr (1, n, .inr (.inl (vp_updL f i x))))) := by
  refine fx_R_set R ⟨hs, rfl, fun j hj => ?_⟩ fun a c' ha hc => fx_rc_2 hc ha
  show (if j = i then x else f j) = if k = k ∧ j = i then x else σ.2 k j
  by_cases e : j = i
  · rw [if_pos e, if_pos ⟨rfl, e⟩]
  · rw [if_neg e, if_neg fun q => e q.2]
    exact hf j hj
theorem fx_R_f1 {σ : fx_S} {h : iv_H} {k ci j : Nat} {fs : List Value} {x : Int32} (R : fx_R σ h) (hs : fx_sh k = (100 + ci, fs.length)) (ht : iv_ft ci j = .int ∨ iv_ft ci j = .boolean) (hf : ∀ i, i < fs.length → fs[i]? = some (fx_fv σ k ci i)) : fx_R (fx_w1 σ k j x) (h.set k (.inl (ci, fs.set j (.int x)))) := by
  refine fx_R_set R ⟨by rw [List.length_set]; exact hs, fun i hi => ?_⟩ fun a c' ha hc => fx_rc_1 hc ha
  rw [List.length_set] at hi
  show (fs.set j (.int x))[i]? = _
  by_cases e : j = i
  · subst e
    rw [List.getElem?_set_self hi]
    unfold fx_fv
    have e2 : (fx_w1 σ k j x).1 k j = x := if_pos ⟨rfl, rfl⟩
    rcases ht with q | q <;> rw [q, e2]
  · rw [List.getElem?_set_ne e, hf i hi]
    unfold fx_fv
    have e2 : (fx_w1 σ k j x).1 k i = σ.1 k i := if_neg fun q => e q.2.symm
    rw [e2]
    rfl
theorem fx_R_f2 {σ : fx_S} {h : iv_H} {k ci j : Nat} {fs : List Value} {x : Int64} (R : fx_R σ h) (hs : fx_sh k = (100 + ci, fs.length)) (ht : iv_ft ci j = .long) (hf : ∀ i, i < fs.length → fs[i]? = some (fx_fv σ k ci i)) : fx_R (fx_w2 σ k j x) (h.set k (.inl (ci, fs.set j (.long x)))) := by
  refine fx_R_set R ⟨by rw [List.length_set]; exact hs, fun i hi => ?_⟩ fun a c' ha hc => fx_rc_2 hc ha
  rw [List.length_set] at hi
  show (fs.set j (.long x))[i]? = _
  by_cases e : j = i
  · subst e
    rw [List.getElem?_set_self hi]
    unfold fx_fv
    have e2 : (fx_w2 σ k j x).2 k j = x := if_pos ⟨rfl, rfl⟩
    rw [ht, e2]
  · rw [List.getElem?_set_ne e, hf i hi]
    unfold fx_fv
    have e2 : (fx_w2 σ k j x).2 k i = σ.2 k i := if_neg fun q => e q.2.symm
    rw [e2]
    rfl
/-- accesses of arrays -/
def fx_ld (σ : fx_S) (k : Nat) (i : Int32) : Option Int32 := if fx_ok 0 k i = true then some (σ.1 k i.toNatClampNeg) else none
def fx_ldb (σ : fx_S) (k : Nat) (i : Int32) : Option Int32 := if fx_ok 3 k i = true ∨ fx_ok 2 k i = true then some (σ.1 k i.toNatClampNeg) else none
def fx_ldl (σ : fx_S) (k : Nat) (i : Int32) : Option Int64 := if fx_ok 1 k i = true then some (σ.2 k i.toNatClampNeg) else none
def fx_ldr (t k : Nat) (i : Int32) : Option Nat := if fx_ok t k i = true then some (fx_rf k i.toNatClampNeg) else none
def fx_st (σ : fx_S) (k : Nat) (i x : Int32) : Option fx_S := if fx_ok 0 k i = true then some (fx_w1 σ k i.toNatClampNeg x) else none
def fx_stb (σ : fx_S) (k : Nat) (i x : Int32) : Option fx_S := if fx_ok 3 k i = true then some (fx_w1 σ k i.toNatClampNeg (vp_nar .byte x)) else if fx_ok 2 k i = true then some (fx_w1 σ k i.toNatClampNeg (vp_nar .boolean x)) else none
def fx_stl (σ : fx_S) (k : Nat) (i : Int32) (x : Int64) : Option fx_S := if fx_ok 1 k i = true then some (fx_w2 σ k i.toNatClampNeg x) else none
def fx_len (k : Nat) : Int32 := Int32.ofNat (fx_sh k).2
def fx_cp (σ : fx_S) (a sp b dp n : Nat) : fx_S := (fun k j => if k = b ∧ dp ≤ j ∧ j < dp + n then σ.1 a (sp + (j - dp)) else σ.1 k j, σ.2)
def fx_cpy (σ : fx_S) (a : Nat) (sp : Int32) (b : Nat) (dp n : Int32) : Option fx_S :=
  if Nat.blt a fx_N = true ∧ Nat.blt b fx_N = true ∧ (fx_sh a).1 = 0 ∧ (fx_sh b).1 = 0 ∧ 0 ≤ sp ∧ 0 ≤ dp ∧ 0 ≤ n ∧ sp.toNatClampNeg + n.toNatClampNeg ≤ (fx_sh a).2 ∧ dp.toNatClampNeg + n.toNatClampNeg ≤ (fx_sh b).2 then some (fx_cp σ a sp.toNatClampNeg b dp.toNatClampNeg n.toNatClampNeg) else none
def fx_b (b : Bool) : Int32 := if b = true then 1 else 0
/-- what a write of slot i leaves of the local below it -/
def fx_kl (o : Option Value) : Option Value := match o with
  | some (.long _) => none
  | some (.double _) => none
  | o => o
theorem fx_k_s (al : iv_L) (i : Nat) : iv_k al (i + 1) = match al[i]? with
    | some o => al.set i (fx_kl o)
    | none => al := by
  unfold iv_k
  dsimp only
  cases h : al[i]? with
  | none => rfl
  | some o =>
    cases o with
    | none =>
      show al = al.set i none
      exact (iv_set_self h).symm
    | some w =>
      cases w with
      | long x => rfl
      | double x => rfl
      | _ => exact (iv_set_self h).symm
/-- FROM A PLACE: whatever heap holds σ, the run ends with v, in a heap that holds τ -/
def fx_E (z : iv_Z) (mi d pc : Nat) (al : iv_L) (st : List Value) (σ : fx_S) (v : Option Value) (τ : fx_S) : Prop := ∀ h : iv_H, fx_R σ h → ∃ (n : Nat) (h' : iv_H), iv_run z n d mi (pc, al, st, h) = some (v, h') ∧ fx_R τ h'
section
variable {z : iv_Z} {mi d pc pc' : Nat} {al al' : iv_L} {st st' : List Value} {σ σ2 τ : fx_S} {v : Option Value} {op : Jvm.ClassFile.Instr}
theorem fx_p (hc : iv_cd mi pc = some op) (h0 : iv_isr op = false) (h1 : ∀ h : iv_H, iv_ca mi op st h = none) (h2 : ∀ h : iv_H, iv_op z mi pc op al st h = some (pc', al', st', none)) (E : fx_E z mi d pc' al' st' σ v τ) : fx_E z mi d pc al st σ v τ := by
  intro h R
  obtain ⟨n, h', e, R'⟩ := E h R
  exact ⟨n + 1, h', iv_rs hc h0 (h1 h) (h2 h) rfl e, R'⟩
theorem fx_q (hc : iv_cd mi pc = some op) (h0 : iv_isr op = false) (h1 : ∀ h : iv_H, iv_ca mi op st h = none) (h2 : ∀ h : iv_H, fx_R σ h → iv_op z mi pc op al st h = some (pc', al', st', none)) (E : fx_E z mi d pc' al' st' σ v τ) : fx_E z mi d pc al st σ v τ := by
  intro h R
  obtain ⟨n, h', e, R'⟩ := E h R
  exact ⟨n + 1, h', iv_rs hc h0 (h1 h) (h2 h R) rfl e, R'⟩
theorem fx_s (hc : iv_cd mi pc = some op) (h0 : iv_isr op = false) (h1 : ∀ h : iv_H, iv_ca mi op st h = none) (h2 : ∀ h : iv_H, fx_R σ h → ∃ (k : Nat) (c c0 : iv_C), iv_op z mi pc op al st h = some (pc', al', st', some (some k, c)) ∧ h[k]? = some c0 ∧ iv_cz c0 = iv_cz c ∧ fx_R σ2 (h.set k c)) (E : fx_E z mi d pc' al' st' σ2 v τ) : fx_E z mi d pc al st σ v τ := by
  intro h R
  obtain ⟨k, c, c0, e1, e2, e3, R2⟩ := h2 h R
  obtain ⟨n, h', e, R'⟩ := E _ R2
  refine ⟨n + 1, h', iv_rs hc h0 (h1 h) e1 ?_ e, R'⟩
  unfold iv_ef
  dsimp only
  rw [e2]
  exact if_pos (congrArg some e3)
theorem fx_if {α : Type} {c : Prop} [Decidable c] {a b : Option α} {r : α} (h : (if c then a else b) = some r) : (c ∧ a = some r) ∨ (¬ c ∧ b = some r) := by
  by_cases q : c
  · rw [if_pos q] at h; exact Or.inl ⟨q, h⟩
  · rw [if_neg q] at h; exact Or.inr ⟨q, h⟩
theorem fx_bd {α β : Type} {a : Option α} {f : α → Option β} {r : β} (h : a.bind f = some r) : ∃ x, a = some x ∧ f x = some r := Option.bind_eq_some_iff.mp h
theorem fx_no {α : Type} {r : α} (h : (none : Option α) = some r) {P : Prop} : P := by cases h
end
end
section
/-! ROWS: an instruction each, from fx_E of what comes behind it -/
section
variable {z : iv_Z} {mi d pc p : Nat} {al al' : iv_L} {r : List Value} {σ τ σ2 : fx_S} {v : Option Value}
theorem fs_iconst {n : Int} {x : Int32} (hc : iv_cd mi pc = some (.iconst n)) (hp : pc + 1 = p) (hx : Int32.ofInt n = x) (E : fx_E z mi d p al (.int x :: r) σ v τ) : fx_E z mi d pc al (r) σ v τ := by
  subst hp
  subst hx
  exact fx_p hc rfl (fun _ => rfl) (fun _ => rfl) E
theorem fs_bipush {n : Int} {x : Int32} (hc : iv_cd mi pc = some (.bipush n)) (hp : pc + 2 = p) (hx : (Int8.ofInt n).toInt32 = x) (E : fx_E z mi d p al (.int x :: r) σ v τ) : fx_E z mi d pc al (r) σ v τ := by
  subst hp
  subst hx
  exact fx_p hc rfl (fun _ => rfl) (fun _ => rfl) E
theorem fs_sipush {n : Int} {x : Int32} (hc : iv_cd mi pc = some (.sipush n)) (hp : pc + 3 = p) (hx : (Int16.ofInt n).toInt32 = x) (E : fx_E z mi d p al (.int x :: r) σ v τ) : fx_E z mi d pc al (r) σ v τ := by
  subst hp
  subst hx
  exact fx_p hc rfl (fun _ => rfl) (fun _ => rfl) E
theorem fs_lconst {n : Fin 2} {x : Int64} (hc : iv_cd mi pc = some (.lconst n)) (hp : pc + 1 = p) (hx : Int64.ofNat (n : Nat) = x) (E : fx_E z mi d p al (.long x :: r) σ v τ) : fx_E z mi d pc al r σ v τ := by
  subst hp hx
  exact fx_p hc rfl (fun _ => rfl) (fun _ => rfl) E
theorem fs_ldc {idx : Nat} {x : Int32} (hc : iv_cd mi pc = some (.ldc idx)) (hp : pc + 2 = p) (hx : iv_lc (iv_kf mi) idx = some x) (E : fx_E z mi d p al (.int x :: r) σ v τ) : fx_E z mi d pc al r σ v τ := by
  subst hp
  exact fx_p hc rfl (fun _ => rfl) (fun _ => (by show (iv_lc (iv_kf mi) idx).bind _ = _; rw [hx]; rfl)) E
theorem fs_ldc2 {idx : Nat} {x : Int64} (hc : iv_cd mi pc = some (.ldc2_w idx)) (hp : pc + 3 = p) (hx : iv_l2 (iv_kf mi) idx = some x) (E : fx_E z mi d p al (.long x :: r) σ v τ) : fx_E z mi d pc al r σ v τ := by
  subst hp
  exact fx_p hc rfl (fun _ => rfl) (fun _ => (by show id_l2 mi (pc + 3) idx al _ = _; unfold id_l2; rw [hx]; rfl)) E
theorem fs_ldcw {idx : Nat} {x : Int32} (hc : iv_cd mi pc = some (.ldc_w idx)) (hp : pc + 3 = p) (hx : iv_lc (iv_kf mi) idx = some x) (E : fx_E z mi d p al (.int x :: r) σ v τ) : fx_E z mi d pc al r σ v τ := by
  subst hp
  exact fx_p hc rfl (fun _ => rfl) (fun _ => (by show (iv_lc (iv_kf mi) idx).bind _ = _; rw [hx]; rfl)) E
theorem fs_iload_n {k : Fin 4} {x : Int32} (hc : iv_cd mi pc = some (.iload_n k)) (hp : pc + 1 = p) (hl : al[(k : Nat)]? = some (some (.int x))) (E : fx_E z mi d p al (.int x :: r) σ v τ) : fx_E z mi d pc al r σ v τ := by
  subst hp
  exact fx_p hc rfl (fun _ => rfl) (fun _ => (by show iv_li al (k : Nat) _ = _; unfold iv_li; rw [hl]; rfl)) E
theorem fs_iload {k : Nat} {x : Int32} (hc : iv_cd mi pc = some (.iload k)) (hp : pc + 2 = p) (hl : al[(k : Nat)]? = some (some (.int x))) (E : fx_E z mi d p al (.int x :: r) σ v τ) : fx_E z mi d pc al r σ v τ := by
  subst hp
  exact fx_p hc rfl (fun _ => rfl) (fun _ => (by show iv_li al (k : Nat) _ = _; unfold iv_li; rw [hl]; rfl)) E
theorem fs_lload_n {k : Fin 4} {x : Int64} (hc : iv_cd mi pc = some (.lload_n k)) (hp : pc + 1 = p) (hl : al[(k : Nat)]? = some (some (.long x))) (E : fx_E z mi d p al (.long x :: r) σ v τ) : fx_E z mi d pc al r σ v τ := by
  subst hp
  exact fx_p hc rfl (fun _ => rfl) (fun _ => (by show iv_lj al (k : Nat) _ = _; unfold iv_lj; rw [hl]; rfl)) E
theorem fs_lload {k : Nat} {x : Int64} (hc : iv_cd mi pc = some (.lload k)) (hp : pc + 2 = p) (hl : al[(k : Nat)]? = some (some (.long x))) (E : fx_E z mi d p al (.long x :: r) σ v τ) : fx_E z mi d pc al r σ v τ := by
  subst hp
  exact fx_p hc rfl (fun _ => rfl) (fun _ => (by show iv_lj al (k : Nat) _ = _; unfold iv_lj; rw [hl]; rfl)) E
theorem fs_aload_n {k : Fin 4} {x : Nat} (hc : iv_cd mi pc = some (.aload_n k)) (hp : pc + 1 = p) (hl : al[(k : Nat)]? = some (some (.ref x))) (E : fx_E z mi d p al (.ref x :: r) σ v τ) : fx_E z mi d pc al r σ v τ := by
  subst hp
  exact fx_p hc rfl (fun _ => rfl) (fun _ => (by show iv_la al (k : Nat) (fun x => some (pc + 1, al, x :: r, (none : iv_F))) = _; unfold iv_la; rw [hl])) E
theorem fs_aload_n_a {k : Fin 4} {x : Nat} (hc : iv_cd mi pc = some (.aload_n k)) (hp : pc + 1 = p) (hl : al[(k : Nat)]? = some (some (.retAddr x))) (E : fx_E z mi d p al (.retAddr x :: r) σ v τ) : fx_E z mi d pc al r σ v τ := by
  subst hp
  exact fx_p hc rfl (fun _ => rfl) (fun _ => (by show iv_la al (k : Nat) (fun x => some (pc + 1, al, x :: r, (none : iv_F))) = _; unfold iv_la; rw [hl])) E
theorem fs_aload {k : Nat} {x : Nat} (hc : iv_cd mi pc = some (.aload k)) (hp : pc + 2 = p) (hl : al[(k : Nat)]? = some (some (.ref x))) (E : fx_E z mi d p al (.ref x :: r) σ v τ) : fx_E z mi d pc al r σ v τ := by
  subst hp
  exact fx_p hc rfl (fun _ => rfl) (fun _ => (by show iv_la al (k : Nat) (fun x => some (pc + 2, al, x :: r, (none : iv_F))) = _; unfold iv_la; rw [hl])) E
theorem fs_aload_a {k : Nat} {x : Nat} (hc : iv_cd mi pc = some (.aload k)) (hp : pc + 2 = p) (hl : al[(k : Nat)]? = some (some (.retAddr x))) (E : fx_E z mi d p al (.retAddr x :: r) σ v τ) : fx_E z mi d pc al r σ v τ := by
  subst hp
  exact fx_p hc rfl (fun _ => rfl) (fun _ => (by show iv_la al (k : Nat) (fun x => some (pc + 2, al, x :: r, (none : iv_F))) = _; unfold iv_la; rw [hl])) E
def fx_s1 (al : iv_L) (i : Nat) (w : Value) : iv_L := match i with
  | 0 => al.set 0 (some w)
  | j + 1 => match al[j]? with
    | some o => (al.set j (fx_kl o)).set (j + 1) (some w)
    | none => al.set (j + 1) (some w)
def fx_s2 (al : iv_L) (i : Nat) (w : Value) : iv_L := match i with
  | 0 => (al.set 1 none).set 0 (some w)
  | j + 1 => match al[j]? with
    | some o => ((al.set j (fx_kl o)).set (j + 2) none).set (j + 1) (some w)
    | none => (al.set (j + 2) none).set (j + 1) (some w)
theorem fx_s1_s (al : iv_L) (i : Nat) (w : Value) : iv_s1 al i w = fx_s1 al i w := by
  unfold iv_s1 fx_s1
  cases i with
  | zero => rfl
  | succ j =>
    rw [fx_k_s]
    dsimp only
    cases al[j]? <;> rfl
theorem fx_s2_s (al : iv_L) (i : Nat) (w : Value) : iv_s2 al i w = fx_s2 al i w := by
  unfold iv_s2 fx_s2
  cases i with
  | zero => rfl
  | succ j =>
    rw [fx_k_s]
    dsimp only
    cases al[j]? <;> rfl
theorem fs_istore_n {k : Fin 4} {x : Int32} {M : Nat} (hc : iv_cd mi pc = some (.istore_n k)) (hp : pc + 1 = p) (hm : iv_mx mi = M) (hk : Nat.ble ((k : Nat) + 1) M = true) (ha : fx_s1 al (k : Nat) (.int x) = al') (E : fx_E z mi d p al' r σ v τ) : fx_E z mi d pc al (.int x :: r) σ v τ := by
  subst hp ha
  refine fx_p hc rfl (fun _ => rfl) (fun _ => ?_) E
  show iv_sl mi (k : Nat) 0 _ = _
  unfold iv_sl
  rw [hm, if_pos (show (k : Nat) + 0 < M from Nat.le_of_ble_eq_true hk), fx_s1_s]
theorem fs_istore {k : Nat} {x : Int32} {M : Nat} (hc : iv_cd mi pc = some (.istore k)) (hp : pc + 2 = p) (hm : iv_mx mi = M) (hk : Nat.ble ((k : Nat) + 1) M = true) (ha : fx_s1 al (k : Nat) (.int x) = al') (E : fx_E z mi d p al' r σ v τ) : fx_E z mi d pc al (.int x :: r) σ v τ := by
  subst hp ha
  refine fx_p hc rfl (fun _ => rfl) (fun _ => ?_) E
  show iv_sl mi (k : Nat) 0 _ = _
  unfold iv_sl
  rw [hm, if_pos (show (k : Nat) + 0 < M from Nat.le_of_ble_eq_true hk), fx_s1_s]
theorem fs_lstore_n {k : Fin 4} {x : Int64} {M : Nat} (hc : iv_cd mi pc = some (.lstore_n k)) (hp : pc + 1 = p) (hm : iv_mx mi = M) (hk : Nat.ble ((k : Nat) + 2) M = true) (ha : fx_s2 al (k : Nat) (.long x) = al') (E : fx_E z mi d p al' r σ v τ) : fx_E z mi d pc al (.long x :: r) σ v τ := by
  subst hp ha
  refine fx_p hc rfl (fun _ => rfl) (fun _ => ?_) E
  show iv_sl mi (k : Nat) 1 _ = _
  unfold iv_sl
  rw [hm, if_pos (show (k : Nat) + 1 < M from Nat.le_of_ble_eq_true hk), fx_s2_s]
theorem fs_lstore {k : Nat} {x : Int64} {M : Nat} (hc : iv_cd mi pc = some (.lstore k)) (hp : pc + 2 = p) (hm : iv_mx mi = M) (hk : Nat.ble ((k : Nat) + 2) M = true) (ha : fx_s2 al (k : Nat) (.long x) = al') (E : fx_E z mi d p al' r σ v τ) : fx_E z mi d pc al (.long x :: r) σ v τ := by
  subst hp ha
  refine fx_p hc rfl (fun _ => rfl) (fun _ => ?_) E
  show iv_sl mi (k : Nat) 1 _ = _
  unfold iv_sl
  rw [hm, if_pos (show (k : Nat) + 1 < M from Nat.le_of_ble_eq_true hk), fx_s2_s]
theorem fs_astore_n {k : Fin 4} {x : Nat} {M : Nat} (hc : iv_cd mi pc = some (.astore_n k)) (hp : pc + 1 = p) (hm : iv_mx mi = M) (hk : Nat.ble ((k : Nat) + 1) M = true) (ha : fx_s1 al (k : Nat) (.ref x) = al') (E : fx_E z mi d p al' r σ v τ) : fx_E z mi d pc al (.ref x :: r) σ v τ := by
  subst hp ha
  refine fx_p hc rfl (fun _ => rfl) (fun _ => ?_) E
  show iv_sl mi (k : Nat) 0 _ = _
  unfold iv_sl
  rw [hm, if_pos (show (k : Nat) + 0 < M from Nat.le_of_ble_eq_true hk), fx_s1_s]
theorem fs_astore {k : Nat} {x : Nat} {M : Nat} (hc : iv_cd mi pc = some (.astore k)) (hp : pc + 2 = p) (hm : iv_mx mi = M) (hk : Nat.ble ((k : Nat) + 1) M = true) (ha : fx_s1 al (k : Nat) (.ref x) = al') (E : fx_E z mi d p al' r σ v τ) : fx_E z mi d pc al (.ref x :: r) σ v τ := by
  subst hp ha
  refine fx_p hc rfl (fun _ => rfl) (fun _ => ?_) E
  show iv_sl mi (k : Nat) 0 _ = _
  unfold iv_sl
  rw [hm, if_pos (show (k : Nat) + 0 < M from Nat.le_of_ble_eq_true hk), fx_s1_s]
theorem fs_iinc {k M : Nat} {n : Int} {x c : Int32} (hc : iv_cd mi pc = some (.iinc k n)) (hp : pc + 3 = p) (hx : Int32.ofInt n = c) (hm : iv_mx mi = M) (hk : Nat.ble (k + 1) M = true) (hl : al[k]? = some (some (.int x))) (ha : fx_s1 al k (.int (x + c)) = al') (E : fx_E z mi d p al' r σ v τ) : fx_E z mi d pc al r σ v τ := by
  subst hp ha hx
  refine fx_p hc rfl (fun _ => rfl) (fun _ => ?_) E
  show iv_li al k _ = _
  unfold iv_li
  rw [hl]
  show iv_sl mi k 0 _ = _
  unfold iv_sl
  rw [hm, if_pos (show k + 0 < M from Nat.le_of_ble_eq_true hk), fx_s1_s]
theorem fs_iadd {x y : Int32} (hc : iv_cd mi pc = some (.iadd)) (hp : pc + 1 = p)  (E : fx_E z mi d p al (.int (x + y) :: r) σ v τ) : fx_E z mi d pc al (.int y :: .int x :: r) σ v τ := by
  subst hp
  exact fx_p hc rfl (fun _ => rfl) (fun _ => rfl) E
theorem fs_isub {x y : Int32} (hc : iv_cd mi pc = some (.isub)) (hp : pc + 1 = p)  (E : fx_E z mi d p al (.int (x - y) :: r) σ v τ) : fx_E z mi d pc al (.int y :: .int x :: r) σ v τ := by
  subst hp
  exact fx_p hc rfl (fun _ => rfl) (fun _ => rfl) E
theorem fs_imul {x y : Int32} (hc : iv_cd mi pc = some (.imul)) (hp : pc + 1 = p)  (E : fx_E z mi d p al (.int (x * y) :: r) σ v τ) : fx_E z mi d pc al (.int y :: .int x :: r) σ v τ := by
  subst hp
  exact fx_p hc rfl (fun _ => rfl) (fun _ => rfl) E
theorem fs_iand {x y : Int32} (hc : iv_cd mi pc = some (.iand)) (hp : pc + 1 = p)  (E : fx_E z mi d p al (.int (x &&& y) :: r) σ v τ) : fx_E z mi d pc al (.int y :: .int x :: r) σ v τ := by
  subst hp
  exact fx_p hc rfl (fun _ => rfl) (fun _ => rfl) E
theorem fs_ior {x y : Int32} (hc : iv_cd mi pc = some (.ior)) (hp : pc + 1 = p)  (E : fx_E z mi d p al (.int (x ||| y) :: r) σ v τ) : fx_E z mi d pc al (.int y :: .int x :: r) σ v τ := by
  subst hp
  exact fx_p hc rfl (fun _ => rfl) (fun _ => rfl) E
theorem fs_ixor {x y : Int32} (hc : iv_cd mi pc = some (.ixor)) (hp : pc + 1 = p)  (E : fx_E z mi d p al (.int (x ^^^ y) :: r) σ v τ) : fx_E z mi d pc al (.int y :: .int x :: r) σ v τ := by
  subst hp
  exact fx_p hc rfl (fun _ => rfl) (fun _ => rfl) E
theorem fs_ishl {x y : Int32} (hc : iv_cd mi pc = some (.ishl)) (hp : pc + 1 = p)  (E : fx_E z mi d p al (.int (x <<< (y &&& 31)) :: r) σ v τ) : fx_E z mi d pc al (.int y :: .int x :: r) σ v τ := by
  subst hp
  exact fx_p hc rfl (fun _ => rfl) (fun _ => rfl) E
theorem fs_ishr {x y : Int32} (hc : iv_cd mi pc = some (.ishr)) (hp : pc + 1 = p)  (E : fx_E z mi d p al (.int (x >>> (y &&& 31)) :: r) σ v τ) : fx_E z mi d pc al (.int y :: .int x :: r) σ v τ := by
  subst hp
  exact fx_p hc rfl (fun _ => rfl) (fun _ => rfl) E
theorem fs_iushr {x y : Int32} (hc : iv_cd mi pc = some (.iushr)) (hp : pc + 1 = p)  (E : fx_E z mi d p al (.int ((x.toUInt32 >>> (y.toUInt32 &&& Int32.toUInt32 31)).toInt32) :: r) σ v τ) : fx_E z mi d pc al (.int y :: .int x :: r) σ v τ := by
  subst hp
  exact fx_p hc rfl (fun _ => rfl) (fun _ => rfl) E
theorem fs_ladd {x y : Int64} (hc : iv_cd mi pc = some (.ladd)) (hp : pc + 1 = p)  (E : fx_E z mi d p al (.long (x + y) :: r) σ v τ) : fx_E z mi d pc al (.long y :: .long x :: r) σ v τ := by
  subst hp
  exact fx_p hc rfl (fun _ => rfl) (fun _ => rfl) E
theorem fs_lsub {x y : Int64} (hc : iv_cd mi pc = some (.lsub)) (hp : pc + 1 = p)  (E : fx_E z mi d p al (.long (x - y) :: r) σ v τ) : fx_E z mi d pc al (.long y :: .long x :: r) σ v τ := by
  subst hp
  exact fx_p hc rfl (fun _ => rfl) (fun _ => rfl) E
theorem fs_lmul {x y : Int64} (hc : iv_cd mi pc = some (.lmul)) (hp : pc + 1 = p)  (E : fx_E z mi d p al (.long (x * y) :: r) σ v τ) : fx_E z mi d pc al (.long y :: .long x :: r) σ v τ := by
  subst hp
  exact fx_p hc rfl (fun _ => rfl) (fun _ => rfl) E
theorem fs_land {x y : Int64} (hc : iv_cd mi pc = some (.land)) (hp : pc + 1 = p)  (E : fx_E z mi d p al (.long (x &&& y) :: r) σ v τ) : fx_E z mi d pc al (.long y :: .long x :: r) σ v τ := by
  subst hp
  exact fx_p hc rfl (fun _ => rfl) (fun _ => rfl) E
theorem fs_lor {x y : Int64} (hc : iv_cd mi pc = some (.lor)) (hp : pc + 1 = p)  (E : fx_E z mi d p al (.long (x ||| y) :: r) σ v τ) : fx_E z mi d pc al (.long y :: .long x :: r) σ v τ := by
  subst hp
  exact fx_p hc rfl (fun _ => rfl) (fun _ => rfl) E
theorem fs_lxor {x y : Int64} (hc : iv_cd mi pc = some (.lxor)) (hp : pc + 1 = p)  (E : fx_E z mi d p al (.long (x ^^^ y) :: r) σ v τ) : fx_E z mi d pc al (.long y :: .long x :: r) σ v τ := by
  subst hp
  exact fx_p hc rfl (fun _ => rfl) (fun _ => rfl) E
theorem fs_idiv {x y : Int32} (hc : iv_cd mi pc = some (.idiv)) (hp : pc + 1 = p) (hy : ¬ y = 0) (E : fx_E z mi d p al (.int (x / y) :: r) σ v τ) : fx_E z mi d pc al (.int y :: .int x :: r) σ v τ := by
  subst hp
  exact fx_p hc rfl (fun _ => rfl) (fun _ => (by show (if y = 0 then none else _) = _; rw [if_neg hy]; rfl)) E
theorem fs_irem {x y : Int32} (hc : iv_cd mi pc = some (.irem)) (hp : pc + 1 = p) (hy : ¬ y = 0) (E : fx_E z mi d p al (.int (x - x / y * y) :: r) σ v τ) : fx_E z mi d pc al (.int y :: .int x :: r) σ v τ := by
  subst hp
  exact fx_p hc rfl (fun _ => rfl) (fun _ => (by show (if y = 0 then none else _) = _; rw [if_neg hy]; rfl)) E
theorem fs_ldiv {x y : Int64} (hc : iv_cd mi pc = some (.ldiv)) (hp : pc + 1 = p) (hy : ¬ y = 0) (E : fx_E z mi d p al (.long (x / y) :: r) σ v τ) : fx_E z mi d pc al (.long y :: .long x :: r) σ v τ := by
  subst hp
  exact fx_p hc rfl (fun _ => rfl) (fun _ => (by show (if y = 0 then none else _) = _; rw [if_neg hy]; rfl)) E
theorem fs_lrem {x y : Int64} (hc : iv_cd mi pc = some (.lrem)) (hp : pc + 1 = p) (hy : ¬ y = 0) (E : fx_E z mi d p al (.long (x - x / y * y) :: r) σ v τ) : fx_E z mi d pc al (.long y :: .long x :: r) σ v τ := by
  subst hp
  exact fx_p hc rfl (fun _ => rfl) (fun _ => (by show (if y = 0 then none else _) = _; rw [if_neg hy]; rfl)) E
theorem fs_lshl {x : Int64} {y : Int32} (hc : iv_cd mi pc = some (.lshl)) (hp : pc + 1 = p)  (E : fx_E z mi d p al (.long (x <<< (y.toInt64 &&& 63)) :: r) σ v τ) : fx_E z mi d pc al (.int y :: .long x :: r) σ v τ := by
  subst hp
  exact fx_p hc rfl (fun _ => rfl) (fun _ => rfl) E
theorem fs_lshr {x : Int64} {y : Int32} (hc : iv_cd mi pc = some (.lshr)) (hp : pc + 1 = p)  (E : fx_E z mi d p al (.long (x >>> (y.toInt64 &&& 63)) :: r) σ v τ) : fx_E z mi d pc al (.int y :: .long x :: r) σ v τ := by
  subst hp
  exact fx_p hc rfl (fun _ => rfl) (fun _ => rfl) E
theorem fs_pop2 {x : Value} (hc : iv_cd mi pc = some (.pop2)) (hp : pc + 1 = p) (hx : x.category = 2) (E : fx_E z mi d p al (r) σ v τ) : fx_E z mi d pc al (x :: r) σ v τ := by
  subst hp
  exact fx_p hc rfl (fun _ => rfl) (fun _ => (by show (if x.category = 2 then _ else none) = _; rw [if_pos hx])) E
theorem fs_ineg {x : Int32} (hc : iv_cd mi pc = some (.ineg)) (hp : pc + 1 = p)  (E : fx_E z mi d p al (.int (-x) :: r) σ v τ) : fx_E z mi d pc al (.int x :: r) σ v τ := by
  subst hp
  exact fx_p hc rfl (fun _ => rfl) (fun _ => rfl) E
theorem fs_lneg {x : Int64} (hc : iv_cd mi pc = some (.lneg)) (hp : pc + 1 = p)  (E : fx_E z mi d p al (.long (-x) :: r) σ v τ) : fx_E z mi d pc al (.long x :: r) σ v τ := by
  subst hp
  exact fx_p hc rfl (fun _ => rfl) (fun _ => rfl) E
theorem fs_i2l {x : Int32} (hc : iv_cd mi pc = some (.i2l)) (hp : pc + 1 = p)  (E : fx_E z mi d p al (.long x.toInt64 :: r) σ v τ) : fx_E z mi d pc al (.int x :: r) σ v τ := by
  subst hp
  exact fx_p hc rfl (fun _ => rfl) (fun _ => rfl) E
theorem fs_l2i {x : Int64} (hc : iv_cd mi pc = some (.l2i)) (hp : pc + 1 = p)  (E : fx_E z mi d p al (.int x.toInt32 :: r) σ v τ) : fx_E z mi d pc al (.long x :: r) σ v τ := by
  subst hp
  exact fx_p hc rfl (fun _ => rfl) (fun _ => rfl) E
theorem fs_i2b {x : Int32} (hc : iv_cd mi pc = some (.i2b)) (hp : pc + 1 = p)  (E : fx_E z mi d p al (.int x.toInt8.toInt32 :: r) σ v τ) : fx_E z mi d pc al (.int x :: r) σ v τ := by
  subst hp
  exact fx_p hc rfl (fun _ => rfl) (fun _ => rfl) E
theorem fs_lcmp {x y : Int64} (hc : iv_cd mi pc = some (.lcmp)) (hp : pc + 1 = p)  (E : fx_E z mi d p al (.int (lg_cmp x y) :: r) σ v τ) : fx_E z mi d pc al (.long y :: .long x :: r) σ v τ := by
  subst hp
  exact fx_p hc rfl (fun _ => rfl) (fun _ => rfl) E
theorem fs_dup {x : Value} (hc : iv_cd mi pc = some (.dup)) (hp : pc + 1 = p) (hx : x.category = 1) (E : fx_E z mi d p al (x :: x :: r) σ v τ) : fx_E z mi d pc al (x :: r) σ v τ := by
  subst hp
  exact fx_p hc rfl (fun _ => rfl) (fun _ => (by show (if x.category = 1 then _ else none) = _; rw [if_pos hx])) E
theorem fs_pop {x : Value} (hc : iv_cd mi pc = some (.pop)) (hp : pc + 1 = p) (hx : x.category = 1) (E : fx_E z mi d p al (r) σ v τ) : fx_E z mi d pc al (x :: r) σ v τ := by
  subst hp
  exact fx_p hc rfl (fun _ => rfl) (fun _ => (by show (if x.category = 1 then _ else none) = _; rw [if_pos hx])) E
theorem fs_dup_x1 {x y : Value} (hc : iv_cd mi pc = some (.dup_x1)) (hp : pc + 1 = p) (hx : x.category = 1) (hy : y.category = 1) (E : fx_E z mi d p al (x :: y :: x :: r) σ v τ) : fx_E z mi d pc al (x :: y :: r) σ v τ := by
  subst hp
  exact fx_p hc rfl (fun _ => rfl) (fun _ => (by show (if x.category = 1 then (if y.category = 1 then _ else none) else none) = _; rw [if_pos hx, if_pos hy])) E
theorem fs_dup2 {x y : Value} (hc : iv_cd mi pc = some (.dup2)) (hp : pc + 1 = p) (hx : x.category = 1) (hy : y.category = 1) (E : fx_E z mi d p al (x :: y :: x :: y :: r) σ v τ) : fx_E z mi d pc al (x :: y :: r) σ v τ := by
  subst hp
  exact fx_p hc rfl (fun _ => rfl) (fun _ => (by show (if x.category = 1 then (if y.category = 1 then _ else none) else none) = _; rw [if_pos hx, if_pos hy])) E
theorem fs_dup_x2 {x y q : Value} (hc : iv_cd mi pc = some (.dup_x2)) (hp : pc + 1 = p) (hx : x.category = 1) (hy : y.category = 1) (hq : q.category = 1) (E : fx_E z mi d p al (x :: y :: q :: x :: r) σ v τ) : fx_E z mi d pc al (x :: y :: q :: r) σ v τ := by
  subst hp
  exact fx_p hc rfl (fun _ => rfl) (fun _ => (by show (if x.category = 1 then (if y.category = 1 then (if q.category = 1 then _ else none) else none) else none) = _; rw [if_pos hx, if_pos hy, if_pos hq])) E
theorem fs_goto {off : Int} (hc : iv_cd mi pc = some (.goto off)) (hp : iv_tg pc off = some p) (E : fx_E z mi d p al r σ v τ) : fx_E z mi d pc al r σ v τ :=
  fx_p hc rfl (fun _ => rfl) (fun _ => (by show (iv_tg pc off).bind _ = _; rw [hp]; rfl)) E
theorem fs_icmp_eq_t {off : Int} {t : Nat} {x y : Int32} (hc : iv_cd mi pc = some (.if_icmp .eq off)) (ht : iv_tg pc off = some t) (c : x = y) (E : fx_E z mi d t al r σ v τ) : fx_E z mi d pc al (.int y :: .int x :: r) σ v τ :=
  fx_p hc rfl (fun _ => rfl) (fun _ => (by show iv_br (decide (x = y)) pc off al r = _; unfold iv_br; rw [ht, decide_eq_true c]; rfl)) E
theorem fs_icmp_eq_f {off : Int} {t : Nat} {x y : Int32} (hc : iv_cd mi pc = some (.if_icmp .eq off)) (ht : iv_tg pc off = some t) (hp : pc + 3 = p) (c : ¬ (x = y)) (E : fx_E z mi d p al r σ v τ) : fx_E z mi d pc al (.int y :: .int x :: r) σ v τ := by
  subst hp
  exact fx_p hc rfl (fun _ => rfl) (fun _ => (by show iv_br (decide (x = y)) pc off al r = _; unfold iv_br; rw [ht, decide_eq_false c]; rfl)) E
theorem fs_if_eq_t {off : Int} {t : Nat} {x : Int32} (hc : iv_cd mi pc = some (.ifCond .eq off)) (ht : iv_tg pc off = some t) (c : x = 0) (E : fx_E z mi d t al r σ v τ) : fx_E z mi d pc al (.int x :: r) σ v τ :=
  fx_p hc rfl (fun _ => rfl) (fun _ => (by show iv_br (decide (x = 0)) pc off al r = _; unfold iv_br; rw [ht, decide_eq_true c]; rfl)) E
theorem fs_if_eq_f {off : Int} {t : Nat} {x : Int32} (hc : iv_cd mi pc = some (.ifCond .eq off)) (ht : iv_tg pc off = some t) (hp : pc + 3 = p) (c : ¬ (x = 0)) (E : fx_E z mi d p al r σ v τ) : fx_E z mi d pc al (.int x :: r) σ v τ := by
  subst hp
  exact fx_p hc rfl (fun _ => rfl) (fun _ => (by show iv_br (decide (x = 0)) pc off al r = _; unfold iv_br; rw [ht, decide_eq_false c]; rfl)) E
theorem fs_icmp_ne_t {off : Int} {t : Nat} {x y : Int32} (hc : iv_cd mi pc = some (.if_icmp .ne off)) (ht : iv_tg pc off = some t) (c : ¬ x = y) (E : fx_E z mi d t al r σ v τ) : fx_E z mi d pc al (.int y :: .int x :: r) σ v τ :=
  fx_p hc rfl (fun _ => rfl) (fun _ => (by show iv_br (decide (¬ x = y)) pc off al r = _; unfold iv_br; rw [ht, decide_eq_true c]; rfl)) E
theorem fs_icmp_ne_f {off : Int} {t : Nat} {x y : Int32} (hc : iv_cd mi pc = some (.if_icmp .ne off)) (ht : iv_tg pc off = some t) (hp : pc + 3 = p) (c : ¬ (¬ x = y)) (E : fx_E z mi d p al r σ v τ) : fx_E z mi d pc al (.int y :: .int x :: r) σ v τ := by
  subst hp
  exact fx_p hc rfl (fun _ => rfl) (fun _ => (by show iv_br (decide (¬ x = y)) pc off al r = _; unfold iv_br; rw [ht, decide_eq_false c]; rfl)) E
theorem fs_if_ne_t {off : Int} {t : Nat} {x : Int32} (hc : iv_cd mi pc = some (.ifCond .ne off)) (ht : iv_tg pc off = some t) (c : ¬ x = 0) (E : fx_E z mi d t al r σ v τ) : fx_E z mi d pc al (.int x :: r) σ v τ :=
  fx_p hc rfl (fun _ => rfl) (fun _ => (by show iv_br (decide (¬ x = 0)) pc off al r = _; unfold iv_br; rw [ht, decide_eq_true c]; rfl)) E
theorem fs_if_ne_f {off : Int} {t : Nat} {x : Int32} (hc : iv_cd mi pc = some (.ifCond .ne off)) (ht : iv_tg pc off = some t) (hp : pc + 3 = p) (c : ¬ (¬ x = 0)) (E : fx_E z mi d p al r σ v τ) : fx_E z mi d pc al (.int x :: r) σ v τ := by
  subst hp
  exact fx_p hc rfl (fun _ => rfl) (fun _ => (by show iv_br (decide (¬ x = 0)) pc off al r = _; unfold iv_br; rw [ht, decide_eq_false c]; rfl)) E
theorem fs_icmp_lt_t {off : Int} {t : Nat} {x y : Int32} (hc : iv_cd mi pc = some (.if_icmp .lt off)) (ht : iv_tg pc off = some t) (c : x < y) (E : fx_E z mi d t al r σ v τ) : fx_E z mi d pc al (.int y :: .int x :: r) σ v τ :=
  fx_p hc rfl (fun _ => rfl) (fun _ => (by show iv_br (decide (x < y)) pc off al r = _; unfold iv_br; rw [ht, decide_eq_true c]; rfl)) E
theorem fs_icmp_lt_f {off : Int} {t : Nat} {x y : Int32} (hc : iv_cd mi pc = some (.if_icmp .lt off)) (ht : iv_tg pc off = some t) (hp : pc + 3 = p) (c : ¬ (x < y)) (E : fx_E z mi d p al r σ v τ) : fx_E z mi d pc al (.int y :: .int x :: r) σ v τ := by
  subst hp
  exact fx_p hc rfl (fun _ => rfl) (fun _ => (by show iv_br (decide (x < y)) pc off al r = _; unfold iv_br; rw [ht, decide_eq_false c]; rfl)) E
theorem fs_if_lt_t {off : Int} {t : Nat} {x : Int32} (hc : iv_cd mi pc = some (.ifCond .lt off)) (ht : iv_tg pc off = some t) (c : x < 0) (E : fx_E z mi d t al r σ v τ) : fx_E z mi d pc al (.int x :: r) σ v τ :=
  fx_p hc rfl (fun _ => rfl) (fun _ => (by show iv_br (decide (x < 0)) pc off al r = _; unfold iv_br; rw [ht, decide_eq_true c]; rfl)) E
theorem fs_if_lt_f {off : Int} {t : Nat} {x : Int32} (hc : iv_cd mi pc = some (.ifCond .lt off)) (ht : iv_tg pc off = some t) (hp : pc + 3 = p) (c : ¬ (x < 0)) (E : fx_E z mi d p al r σ v τ) : fx_E z mi d pc al (.int x :: r) σ v τ := by
  subst hp
  exact fx_p hc rfl (fun _ => rfl) (fun _ => (by show iv_br (decide (x < 0)) pc off al r = _; unfold iv_br; rw [ht, decide_eq_false c]; rfl)) E
theorem fs_icmp_ge_t {off : Int} {t : Nat} {x y : Int32} (hc : iv_cd mi pc = some (.if_icmp .ge off)) (ht : iv_tg pc off = some t) (c : y ≤ x) (E : fx_E z mi d t al r σ v τ) : fx_E z mi d pc al (.int y :: .int x :: r) σ v τ :=
  fx_p hc rfl (fun _ => rfl) (fun _ => (by show iv_br (decide (y ≤ x)) pc off al r = _; unfold iv_br; rw [ht, decide_eq_true c]; rfl)) E
theorem fs_icmp_ge_f {off : Int} {t : Nat} {x y : Int32} (hc : iv_cd mi pc = some (.if_icmp .ge off)) (ht : iv_tg pc off = some t) (hp : pc + 3 = p) (c : ¬ (y ≤ x)) (E : fx_E z mi d p al r σ v τ) : fx_E z mi d pc al (.int y :: .int x :: r) σ v τ := by
  subst hp
  exact fx_p hc rfl (fun _ => rfl) (fun _ => (by show iv_br (decide (y ≤ x)) pc off al r = _; unfold iv_br; rw [ht, decide_eq_false c]; rfl)) E
theorem fs_if_ge_t {off : Int} {t : Nat} {x : Int32} (hc : iv_cd mi pc = some (.ifCond .ge off)) (ht : iv_tg pc off = some t) (c : 0 ≤ x) (E : fx_E z mi d t al r σ v τ) : fx_E z mi d pc al (.int x :: r) σ v τ :=
  fx_p hc rfl (fun _ => rfl) (fun _ => (by show iv_br (decide (0 ≤ x)) pc off al r = _; unfold iv_br; rw [ht, decide_eq_true c]; rfl)) E
theorem fs_if_ge_f {off : Int} {t : Nat} {x : Int32} (hc : iv_cd mi pc = some (.ifCond .ge off)) (ht : iv_tg pc off = some t) (hp : pc + 3 = p) (c : ¬ (0 ≤ x)) (E : fx_E z mi d p al r σ v τ) : fx_E z mi d pc al (.int x :: r) σ v τ := by
  subst hp
  exact fx_p hc rfl (fun _ => rfl) (fun _ => (by show iv_br (decide (0 ≤ x)) pc off al r = _; unfold iv_br; rw [ht, decide_eq_false c]; rfl)) E
theorem fs_icmp_gt_t {off : Int} {t : Nat} {x y : Int32} (hc : iv_cd mi pc = some (.if_icmp .gt off)) (ht : iv_tg pc off = some t) (c : y < x) (E : fx_E z mi d t al r σ v τ) : fx_E z mi d pc al (.int y :: .int x :: r) σ v τ :=
  fx_p hc rfl (fun _ => rfl) (fun _ => (by show iv_br (decide (y < x)) pc off al r = _; unfold iv_br; rw [ht, decide_eq_true c]; rfl)) E
theorem fs_icmp_gt_f {off : Int} {t : Nat} {x y : Int32} (hc : iv_cd mi pc = some (.if_icmp .gt off)) (ht : iv_tg pc off = some t) (hp : pc + 3 = p) (c : ¬ (y < x)) (E : fx_E z mi d p al r σ v τ) : fx_E z mi d pc al (.int y :: .int x :: r) σ v τ := by
  subst hp
  exact fx_p hc rfl (fun _ => rfl) (fun _ => (by show iv_br (decide (y < x)) pc off al r = _; unfold iv_br; rw [ht, decide_eq_false c]; rfl)) E
theorem fs_if_gt_t {off : Int} {t : Nat} {x : Int32} (hc : iv_cd mi pc = some (.ifCond .gt off)) (ht : iv_tg pc off = some t) (c : 0 < x) (E : fx_E z mi d t al r σ v τ) : fx_E z mi d pc al (.int x :: r) σ v τ :=
  fx_p hc rfl (fun _ => rfl) (fun _ => (by show iv_br (decide (0 < x)) pc off al r = _; unfold iv_br; rw [ht, decide_eq_true c]; rfl)) E
theorem fs_if_gt_f {off : Int} {t : Nat} {x : Int32} (hc : iv_cd mi pc = some (.ifCond .gt off)) (ht : iv_tg pc off = some t) (hp : pc + 3 = p) (c : ¬ (0 < x)) (E : fx_E z mi d p al r σ v τ) : fx_E z mi d pc al (.int x :: r) σ v τ := by
  subst hp
  exact fx_p hc rfl (fun _ => rfl) (fun _ => (by show iv_br (decide (0 < x)) pc off al r = _; unfold iv_br; rw [ht, decide_eq_false c]; rfl)) E
theorem fs_icmp_le_t {off : Int} {t : Nat} {x y : Int32} (hc : iv_cd mi pc = some (.if_icmp .le off)) (ht : iv_tg pc off = some t) (c : x ≤ y) (E : fx_E z mi d t al r σ v τ) : fx_E z mi d pc al (.int y :: .int x :: r) σ v τ :=
  fx_p hc rfl (fun _ => rfl) (fun _ => (by show iv_br (decide (x ≤ y)) pc off al r = _; unfold iv_br; rw [ht, decide_eq_true c]; rfl)) E
theorem fs_icmp_le_f {off : Int} {t : Nat} {x y : Int32} (hc : iv_cd mi pc = some (.if_icmp .le off)) (ht : iv_tg pc off = some t) (hp : pc + 3 = p) (c : ¬ (x ≤ y)) (E : fx_E z mi d p al r σ v τ) : fx_E z mi d pc al (.int y :: .int x :: r) σ v τ := by
  subst hp
  exact fx_p hc rfl (fun _ => rfl) (fun _ => (by show iv_br (decide (x ≤ y)) pc off al r = _; unfold iv_br; rw [ht, decide_eq_false c]; rfl)) E
theorem fs_if_le_t {off : Int} {t : Nat} {x : Int32} (hc : iv_cd mi pc = some (.ifCond .le off)) (ht : iv_tg pc off = some t) (c : x ≤ 0) (E : fx_E z mi d t al r σ v τ) : fx_E z mi d pc al (.int x :: r) σ v τ :=
  fx_p hc rfl (fun _ => rfl) (fun _ => (by show iv_br (decide (x ≤ 0)) pc off al r = _; unfold iv_br; rw [ht, decide_eq_true c]; rfl)) E
theorem fs_if_le_f {off : Int} {t : Nat} {x : Int32} (hc : iv_cd mi pc = some (.ifCond .le off)) (ht : iv_tg pc off = some t) (hp : pc + 3 = p) (c : ¬ (x ≤ 0)) (E : fx_E z mi d p al r σ v τ) : fx_E z mi d pc al (.int x :: r) σ v τ := by
  subst hp
  exact fx_p hc rfl (fun _ => rfl) (fun _ => (by show iv_br (decide (x ≤ 0)) pc off al r = _; unfold iv_br; rw [ht, decide_eq_false c]; rfl)) E
theorem fs_tsw_h {dflt lo hi : Int} {offs : Array Int} {x : Int32} {j t : Nat} (hc : iv_cd mi pc = some (.tableswitch dflt lo hi offs)) (ht : (offs[j]?).bind (iv_tg pc) = some t) (hb : (decide (lo ≤ lo + (j : Int)) && decide (lo + (j : Int) ≤ hi) && decide (-2147483648 ≤ lo) && decide (hi ≤ 2147483647)) = true) (hx : x = Int32.ofInt (lo + (j : Int))) (E : fx_E z mi d t al r σ v τ) : fx_E z mi d pc al (.int x :: r) σ v τ := by
  simp only [Bool.and_eq_true, decide_eq_true_eq] at hb
  obtain ⟨⟨⟨b1, b2⟩, b3⟩, b4⟩ := hb
  have e : x.toInt = lo + (j : Int) := by
    rw [hx]
    exact Int32.toInt_ofInt_of_le (by omega) (by omega)
  refine fx_p hc rfl (fun _ => rfl) (fun _ => ?_) E
  show (if x.toInt < lo ∨ hi < x.toInt then iv_jp pc dflt al r else (offs[(x.toInt - lo).toNat]?).bind fun off => iv_jp pc off al r) = _
  rw [if_neg (by omega), e, show (lo + (j : Int) - lo).toNat = j by omega]
  obtain ⟨off, o1, o2⟩ := Option.bind_eq_some_iff.mp ht
  rw [o1]
  show (iv_tg pc off).bind _ = _
  rw [o2]
  rfl
theorem fs_tsw_d {dflt lo hi : Int} {offs : Array Int} {x : Int32} {t : Nat} (hc : iv_cd mi pc = some (.tableswitch dflt lo hi offs)) (ht : iv_tg pc dflt = some t) (hn : hi < lo + offs.size) (hb : (decide (-2147483648 ≤ lo) && decide (hi ≤ 2147483647)) = true) (hx : ∀ j : Nat, j < offs.size → ¬ x = Int32.ofInt (lo + (j : Int))) (E : fx_E z mi d t al r σ v τ) : fx_E z mi d pc al (.int x :: r) σ v τ := by
  simp only [Bool.and_eq_true, decide_eq_true_eq] at hb
  obtain ⟨b3, b4⟩ := hb
  refine fx_p hc rfl (fun _ => rfl) (fun _ => ?_) E
  show (if x.toInt < lo ∨ hi < x.toInt then iv_jp pc dflt al r else _) = _
  rw [if_pos ?_]
  · show (iv_tg pc dflt).bind _ = _
    rw [ht]
    rfl
  · by_cases q : x.toInt < lo ∨ hi < x.toInt
    · exact q
    · have q1 : lo ≤ x.toInt := by omega
      have q2 : x.toInt ≤ hi := by omega
      refine absurd ?_ (hx (x.toInt - lo).toNat (by omega))
      rw [show lo + ((x.toInt - lo).toNat : Int) = x.toInt by omega]
      first | exact (Int32.ofInt_toInt x).symm | simp
theorem fx_lc (x y : Int64) : (lg_cmp x y = 0 ↔ x = y) ∧ (lg_cmp x y < 0 ↔ x < y) ∧ (0 ≤ lg_cmp x y ↔ y ≤ x) ∧ (0 < lg_cmp x y ↔ y < x) ∧ (lg_cmp x y ≤ 0 ↔ x ≤ y) := by
  have h0 := Int64.lt_iff_toInt_lt (x := x) (y := y)
  have h1 := Int64.lt_iff_toInt_lt (x := y) (y := x)
  have h2 := Int64.le_iff_toInt_le (x := x) (y := y)
  have h3 := Int64.le_iff_toInt_le (x := y) (y := x)
  have h4 := Int64.toInt_inj (x := x) (y := y)
  unfold lg_cmp
  by_cases g : x > y
  · rw [if_pos g]
    have g' : y.toInt < x.toInt := h1.mp g
    have e0 : ¬ x = y := fun q => by rw [h4.mpr q] at g'; omega
    have e1 : ¬ x < y := fun q => by have := h0.mp q; omega
    have e2 : y ≤ x := h3.mpr (by omega)
    have e3 : ¬ x ≤ y := fun q => by have := h2.mp q; omega
    exact ⟨⟨fun q => absurd q (by decide), fun q => absurd q e0⟩, ⟨fun q => absurd q (by decide), fun q => absurd q e1⟩, ⟨fun _ => e2, fun _ => by decide⟩, ⟨fun _ => g, fun _ => by decide⟩, ⟨fun q => absurd q (by decide), fun q => absurd q e3⟩⟩
  · rw [if_neg g]
    have g' : ¬ y.toInt < x.toInt := fun q => g (h1.mpr q)
    by_cases e : x = y
    · rw [if_pos e]
      have e1 : ¬ x < y := fun q => by have := h0.mp q; rw [h4.mpr e] at this; omega
      have e2 : y ≤ x := h3.mpr (by rw [h4.mpr e]; omega)
      have e3 : x ≤ y := h2.mpr (by omega)
      exact ⟨⟨fun _ => e, fun _ => rfl⟩, ⟨fun q => absurd q (by decide), fun q => absurd q e1⟩, ⟨fun _ => e2, fun _ => by decide⟩, ⟨fun q => absurd q (by decide), fun q => absurd q g⟩, ⟨fun _ => e3, fun _ => by decide⟩⟩
    · rw [if_neg e]
      have e4 : ¬ x.toInt = y.toInt := fun q => e (h4.mp q)
      have e1 : x < y := h0.mpr (by omega)
      have e2 : ¬ y ≤ x := fun q => by have := h3.mp q; omega
      have e3 : x ≤ y := h2.mpr (by omega)
      exact ⟨⟨fun q => absurd q (by decide), fun q => absurd q e⟩, ⟨fun _ => e1, fun _ => by decide⟩, ⟨fun q => absurd q (by decide), fun q => absurd q e2⟩, ⟨fun q => absurd q (by decide), fun q => absurd q g⟩, ⟨fun _ => e3, fun _ => by decide⟩⟩
theorem fs_lcmp_eq_t {off : Int} {t : Nat} {x y : Int64} (hc0 : iv_cd mi pc = some .lcmp) (hc : iv_cd mi (pc + 1) = some (.ifCond .eq off)) (ht : iv_tg (pc + 1) off = some t) (c : x = y) (E : fx_E z mi d t al r σ v τ) : fx_E z mi d pc al (.long y :: .long x :: r) σ v τ :=
  fs_lcmp hc0 rfl (fs_if_eq_t hc ht (((fx_lc x y).1).mpr c) E)
theorem fs_lcmp_eq_f {off : Int} {t : Nat} {x y : Int64} (hc0 : iv_cd mi pc = some .lcmp) (hc : iv_cd mi (pc + 1) = some (.ifCond .eq off)) (ht : iv_tg (pc + 1) off = some t) (hp : pc + 4 = p) (c : ¬ (x = y)) (E : fx_E z mi d p al r σ v τ) : fx_E z mi d pc al (.long y :: .long x :: r) σ v τ :=
  fs_lcmp hc0 rfl (fs_if_eq_f hc ht (by rw [← hp]) (fun q => c (((fx_lc x y).1).mp q)) E)
theorem fs_lcmp_ne_t {off : Int} {t : Nat} {x y : Int64} (hc0 : iv_cd mi pc = some .lcmp) (hc : iv_cd mi (pc + 1) = some (.ifCond .ne off)) (ht : iv_tg (pc + 1) off = some t) (c : ¬ x = y) (E : fx_E z mi d t al r σ v τ) : fx_E z mi d pc al (.long y :: .long x :: r) σ v τ :=
  fs_lcmp hc0 rfl (fs_if_ne_t hc ht ((not_congr (fx_lc x y).1).mpr c) E)
theorem fs_lcmp_ne_f {off : Int} {t : Nat} {x y : Int64} (hc0 : iv_cd mi pc = some .lcmp) (hc : iv_cd mi (pc + 1) = some (.ifCond .ne off)) (ht : iv_tg (pc + 1) off = some t) (hp : pc + 4 = p) (c : ¬ (¬ x = y)) (E : fx_E z mi d p al r σ v τ) : fx_E z mi d pc al (.long y :: .long x :: r) σ v τ :=
  fs_lcmp hc0 rfl (fs_if_ne_f hc ht (by rw [← hp]) (fun q => c ((not_congr (fx_lc x y).1).mp q)) E)
theorem fs_lcmp_lt_t {off : Int} {t : Nat} {x y : Int64} (hc0 : iv_cd mi pc = some .lcmp) (hc : iv_cd mi (pc + 1) = some (.ifCond .lt off)) (ht : iv_tg (pc + 1) off = some t) (c : x < y) (E : fx_E z mi d t al r σ v τ) : fx_E z mi d pc al (.long y :: .long x :: r) σ v τ :=
  fs_lcmp hc0 rfl (fs_if_lt_t hc ht (((fx_lc x y).2.1).mpr c) E)
theorem fs_lcmp_lt_f {off : Int} {t : Nat} {x y : Int64} (hc0 : iv_cd mi pc = some .lcmp) (hc : iv_cd mi (pc + 1) = some (.ifCond .lt off)) (ht : iv_tg (pc + 1) off = some t) (hp : pc + 4 = p) (c : ¬ (x < y)) (E : fx_E z mi d p al r σ v τ) : fx_E z mi d pc al (.long y :: .long x :: r) σ v τ :=
  fs_lcmp hc0 rfl (fs_if_lt_f hc ht (by rw [← hp]) (fun q => c (((fx_lc x y).2.1).mp q)) E)
theorem fs_lcmp_ge_t {off : Int} {t : Nat} {x y : Int64} (hc0 : iv_cd mi pc = some .lcmp) (hc : iv_cd mi (pc + 1) = some (.ifCond .ge off)) (ht : iv_tg (pc + 1) off = some t) (c : y ≤ x) (E : fx_E z mi d t al r σ v τ) : fx_E z mi d pc al (.long y :: .long x :: r) σ v τ :=
  fs_lcmp hc0 rfl (fs_if_ge_t hc ht (((fx_lc x y).2.2.1).mpr c) E)
theorem fs_lcmp_ge_f {off : Int} {t : Nat} {x y : Int64} (hc0 : iv_cd mi pc = some .lcmp) (hc : iv_cd mi (pc + 1) = some (.ifCond .ge off)) (ht : iv_tg (pc + 1) off = some t) (hp : pc + 4 = p) (c : ¬ (y ≤ x)) (E : fx_E z mi d p al r σ v τ) : fx_E z mi d pc al (.long y :: .long x :: r) σ v τ :=
  fs_lcmp hc0 rfl (fs_if_ge_f hc ht (by rw [← hp]) (fun q => c (((fx_lc x y).2.2.1).mp q)) E)
theorem fs_lcmp_gt_t {off : Int} {t : Nat} {x y : Int64} (hc0 : iv_cd mi pc = some .lcmp) (hc : iv_cd mi (pc + 1) = some (.ifCond .gt off)) (ht : iv_tg (pc + 1) off = some t) (c : y < x) (E : fx_E z mi d t al r σ v τ) : fx_E z mi d pc al (.long y :: .long x :: r) σ v τ :=
  fs_lcmp hc0 rfl (fs_if_gt_t hc ht (((fx_lc x y).2.2.2.1).mpr c) E)
theorem fs_lcmp_gt_f {off : Int} {t : Nat} {x y : Int64} (hc0 : iv_cd mi pc = some .lcmp) (hc : iv_cd mi (pc + 1) = some (.ifCond .gt off)) (ht : iv_tg (pc + 1) off = some t) (hp : pc + 4 = p) (c : ¬ (y < x)) (E : fx_E z mi d p al r σ v τ) : fx_E z mi d pc al (.long y :: .long x :: r) σ v τ :=
  fs_lcmp hc0 rfl (fs_if_gt_f hc ht (by rw [← hp]) (fun q => c (((fx_lc x y).2.2.2.1).mp q)) E)
theorem fs_lcmp_le_t {off : Int} {t : Nat} {x y : Int64} (hc0 : iv_cd mi pc = some .lcmp) (hc : iv_cd mi (pc + 1) = some (.ifCond .le off)) (ht : iv_tg (pc + 1) off = some t) (c : x ≤ y) (E : fx_E z mi d t al r σ v τ) : fx_E z mi d pc al (.long y :: .long x :: r) σ v τ :=
  fs_lcmp hc0 rfl (fs_if_le_t hc ht (((fx_lc x y).2.2.2.2).mpr c) E)
theorem fs_lcmp_le_f {off : Int} {t : Nat} {x y : Int64} (hc0 : iv_cd mi pc = some .lcmp) (hc : iv_cd mi (pc + 1) = some (.ifCond .le off)) (ht : iv_tg (pc + 1) off = some t) (hp : pc + 4 = p) (c : ¬ (x ≤ y)) (E : fx_E z mi d p al r σ v τ) : fx_E z mi d pc al (.long y :: .long x :: r) σ v τ :=
  fs_lcmp hc0 rfl (fs_if_le_f hc ht (by rw [← hp]) (fun q => c (((fx_lc x y).2.2.2.2).mp q)) E)
theorem fx_gf {idx ci j k : Nat} {h : iv_H} (R : fx_R σ h) (hf : iv_fd (iv_kf mi) idx = some (ci, j)) (hk : fx_oc k ci = true) (hj : Nat.blt j (fx_sh k).2 = true) : iv_gf mi idx h k = some (fx_fv σ k ci j) := by
  obtain ⟨fs, h1, h2, h3⟩ := fx_R_o R hk
  rw [iv_gf_at hf h1]
  exact h3 j (by rw [h2]; exact Nat.le_of_ble_eq_true hj)
/-- a field's number, type; nf: how many the class has -/
def fx_kf (mi idx ci j nf : Nat) (t : Nat) : Bool := decide (iv_fd (iv_kf mi) idx = some (ci, j)) && Nat.blt j nf && (match iv_ft ci j with
  | .int => Nat.beq t 0
  | .boolean => Nat.beq t 0 || Nat.beq t 3
  | .long => Nat.beq t 1
  | .object _ => Nat.beq t 2
  | .array _ => Nat.beq t 2
  | _ => false)
theorem fx_nf_of {k ci : Nat} (hk : fx_oc k ci = true) : (fx_sh k).2 = fx_nf ci := by
  obtain ⟨g1, g2⟩ := fx_oc_s hk
  have h := List.all_eq_true.mp fx_nf_all k (List.mem_range.mpr g1)
  rw [g2] at h
  simp only [Bool.or_eq_true] at h
  rcases h with h | h
  · exact absurd (Nat.le_of_ble_eq_true h) (by omega)
  · rw [Nat.eq_of_beq_eq_true h, show 100 + ci - 100 = ci by omega]
theorem fx_kf_s {idx ci j t : Nat} (h : fx_kf mi idx ci j (fx_nf ci) t = true) : iv_fd (iv_kf mi) idx = some (ci, j) ∧ j < fx_nf ci := by
  simp only [fx_kf, Bool.and_eq_true, decide_eq_true_eq] at h
  exact ⟨h.1.1, Nat.le_of_ble_eq_true h.1.2⟩
theorem fx_kf0 {idx ci j : Nat} (h : fx_kf mi idx ci j (fx_nf ci) 0 = true) : (iv_ft ci j = .int ∨ iv_ft ci j = .boolean) ∧ ∀ (σ : fx_S) (k : Nat), fx_fv σ k ci j = .int (σ.1 k j) := by
  simp only [fx_kf, Bool.and_eq_true] at h
  have h2 := h.2
  unfold fx_fv
  clear h
  revert h2
  generalize iv_ft ci j = ty
  cases ty <;> intro h2 <;> first | exact ⟨Or.inl rfl, fun _ _ => rfl⟩ | exact ⟨Or.inr rfl, fun _ _ => rfl⟩ | cases h2
theorem fx_kf1 {idx ci j : Nat} (h : fx_kf mi idx ci j (fx_nf ci) 1 = true) : iv_ft ci j = .long ∧ ∀ (σ : fx_S) (k : Nat), fx_fv σ k ci j = .long (σ.2 k j) := by
  simp only [fx_kf, Bool.and_eq_true] at h
  have h2 := h.2
  unfold fx_fv
  clear h
  revert h2
  generalize iv_ft ci j = ty
  cases ty <;> intro h2 <;> first | exact ⟨rfl, fun _ _ => rfl⟩ | cases h2
theorem fx_kf2 {idx ci j : Nat} (h : fx_kf mi idx ci j (fx_nf ci) 2 = true) : ∀ (σ : fx_S) (k : Nat), fx_fv σ k ci j = .ref (fx_rf k j) := by
  simp only [fx_kf, Bool.and_eq_true] at h
  have h2 := h.2
  unfold fx_fv
  clear h
  revert h2
  generalize iv_ft ci j = ty
  cases ty <;> intro h2 <;> first | exact fun _ _ => rfl | cases h2
theorem fs_gfi {idx ci j k : Nat} (hc : iv_cd mi pc = some (.getfield idx)) (hp : pc + 3 = p) (hf : fx_kf mi idx ci j (fx_nf ci) 0 = true) (hk : fx_oc k ci = true) (E : fx_E z mi d p al (.int (σ.1 k j) :: r) σ v τ) : fx_E z mi d pc al (.ref k :: r) σ v τ := by
  subst hp
  obtain ⟨h1, h2⟩ := fx_kf_s hf
  refine fx_q hc rfl (fun _ => rfl) (fun h R => iv_gf_o ?_) E
  rw [fx_gf R h1 hk (Nat.ble_eq_true_of_le (by rw [fx_nf_of hk]; exact h2)), (fx_kf0 hf).2]
theorem fs_gfl {idx ci j k : Nat} (hc : iv_cd mi pc = some (.getfield idx)) (hp : pc + 3 = p) (hf : fx_kf mi idx ci j (fx_nf ci) 1 = true) (hk : fx_oc k ci = true) (E : fx_E z mi d p al (.long (σ.2 k j) :: r) σ v τ) : fx_E z mi d pc al (.ref k :: r) σ v τ := by
  subst hp
  obtain ⟨h1, h2⟩ := fx_kf_s hf
  refine fx_q hc rfl (fun _ => rfl) (fun h R => iv_gf_o ?_) E
  rw [fx_gf R h1 hk (Nat.ble_eq_true_of_le (by rw [fx_nf_of hk]; exact h2)), (fx_kf1 hf).2]
theorem fs_gfr {idx ci j k a : Nat} (hc : iv_cd mi pc = some (.getfield idx)) (hp : pc + 3 = p) (hf : fx_kf mi idx ci j (fx_nf ci) 2 = true) (hk : fx_oc k ci = true) (ha : fx_rf k j = a) (E : fx_E z mi d p al (.ref a :: r) σ v τ) : fx_E z mi d pc al (.ref k :: r) σ v τ := by
  subst hp ha
  obtain ⟨h1, h2⟩ := fx_kf_s hf
  refine fx_q hc rfl (fun _ => rfl) (fun h R => iv_gf_o ?_) E
  rw [fx_gf R h1 hk (Nat.ble_eq_true_of_le (by rw [fx_nf_of hk]; exact h2)), fx_kf2 hf]
/-- a field that is not final -/
def fx_kp (ci j : Nat) : Bool := !(iv_fi ci j)
theorem fs_pfi {idx ci j k : Nat} {x : Int32} (hc : iv_cd mi pc = some (.putfield idx)) (hp : pc + 3 = p) (hf : fx_kf mi idx ci j (fx_nf ci) 0 = true) (hn : fx_kp ci j = true) (hk : fx_oc k ci = true) (hx : iv_ok (iv_ft ci j) (.int x) = true) (E : fx_E z mi d p al r (fx_w1 σ k j x) v τ) : fx_E z mi d pc al (.int x :: .ref k :: r) σ v τ := by
  subst hp
  obtain ⟨h1, h2⟩ := fx_kf_s hf
  refine fx_s hc rfl (fun _ => rfl) (fun h R => ?_) E
  obtain ⟨fs, g1, g2, g3⟩ := fx_R_o R hk
  have hl : j < fs.length := by rw [g2, fx_nf_of hk]; exact h2
  refine ⟨k, .inl (ci, fs.set j (.int x)), .inl (ci, fs), ?_, g1, ?_, fx_R_f1 R (by rw [g2]; exact Prod.ext (fx_oc_s hk).2 rfl) (fx_kf0 hf).1 g3⟩
  · show (iv_pf mi idx h k (.int x)).bind _ = _
    have e : iv_pf mi idx h k (.int x) = some (some k, .inl (ci, fs.set j (.int x))) := by
      unfold iv_pf
      rw [h1, g1]
      dsimp only
      have e3 : iv_fi ci j = false := by
        unfold fx_kp at hn
        cases q : iv_fi ci j with
        | true => rw [q] at hn; cases hn
        | false => rfl
      rw [if_pos ⟨rfl, hl, hx, Or.inl e3⟩]
    rw [e]
    rfl
  · show fs.length = (fs.set j (.int x)).length
    rw [List.length_set]
theorem fs_pfl {idx ci j k : Nat} {x : Int64} (hc : iv_cd mi pc = some (.putfield idx)) (hp : pc + 3 = p) (hf : fx_kf mi idx ci j (fx_nf ci) 1 = true) (hn : fx_kp ci j = true) (hk : fx_oc k ci = true) (E : fx_E z mi d p al r (fx_w2 σ k j x) v τ) : fx_E z mi d pc al (.long x :: .ref k :: r) σ v τ := by
  subst hp
  obtain ⟨h1, h2⟩ := fx_kf_s hf
  refine fx_s hc rfl (fun _ => rfl) (fun h R => ?_) E
  obtain ⟨fs, g1, g2, g3⟩ := fx_R_o R hk
  have hl : j < fs.length := by rw [g2, fx_nf_of hk]; exact h2
  refine ⟨k, .inl (ci, fs.set j (.long x)), .inl (ci, fs), ?_, g1, ?_, fx_R_f2 R (by rw [g2]; exact Prod.ext (fx_oc_s hk).2 rfl) (fx_kf1 hf).1 g3⟩
  · show (iv_pf mi idx h k (.long x)).bind _ = _
    have e : iv_pf mi idx h k (.long x) = some (some k, .inl (ci, fs.set j (.long x))) := by
      unfold iv_pf
      rw [h1, g1]
      dsimp only
      have e3 : iv_fi ci j = false := by
        unfold fx_kp at hn
        cases q : iv_fi ci j with
        | true => rw [q] at hn; cases hn
        | false => rfl
      rw [if_pos ⟨rfl, hl, by rw [(fx_kf1 hf).1]; rfl, Or.inl e3⟩]
    rw [e]
    rfl
  · show fs.length = (fs.set j (.long x)).length
    rw [List.length_set]
theorem fx_is {k t n : Nat} {ty : FieldType} (hs : fx_sh k = (t, n)) (ht : iv_ty[t]? = some ty) : iv_is t ty = true := decide_eq_true ht
theorem fx_inn {t k : Nat} {i : Int32} {n : Nat} (g : fx_ok t k i = true) (hs : fx_sh k = (t, n)) : iv_in i n = true := by
  obtain ⟨g1, g2, g3, g4⟩ := fx_ok_s g
  rw [hs] at g4
  unfold iv_in
  rw [decide_eq_true g3, decide_eq_true g4]
  rfl
theorem fx_ai {h : iv_H} {k t n : Nat} {f : Nat → Int32} (e : h[k]? = some (.inr (t, n, .inl f))) : iv_ai h k = some (t, n, f) := by
  unfold iv_ai
  rw [e]
theorem fs_iaload {i x : Int32} {k : Nat} (hc : iv_cd mi pc = some .iaload) (hp : pc + 1 = p) (e : fx_ld σ k i = some x) (E : fx_E z mi d p al (.int x :: r) σ v τ) : fx_E z mi d pc al (.int i :: .ref k :: r) σ v τ := by
  subst hp
  obtain ⟨g, e⟩ | ⟨g, e⟩ := fx_if e
  · cases e
    refine fx_q hc rfl (fun _ => rfl) (fun h R => ?_) E
    obtain ⟨n, f, h1, h2, h3, h4⟩ := fx_R_i R g (Or.inl rfl)
    show (iv_ai h k).bind _ = _
    rw [fx_ai h1]
    show (if iv_in i n = true ∧ iv_is 0 .int = true then _ else none) = _
    rw [if_pos ⟨fx_inn g h2, rfl⟩]
    show some (pc + 1, al, Value.int (f i.toNatClampNeg) :: r, none) = _
    rw [h4 _ h3]
  · cases e
theorem fs_baload {i x : Int32} {k : Nat} (hc : iv_cd mi pc = some .baload) (hp : pc + 1 = p) (e : fx_ldb σ k i = some x) (E : fx_E z mi d p al (.int x :: r) σ v τ) : fx_E z mi d pc al (.int i :: .ref k :: r) σ v τ := by
  subst hp
  obtain ⟨g, e⟩ | ⟨g, e⟩ := fx_if e
  · cases e
    refine fx_q hc rfl (fun _ => rfl) (fun h R => ?_) E
    rcases g with g | g
    · obtain ⟨n, f, h1, h2, h3, h4⟩ := fx_R_i R g (Or.inr (Or.inr rfl))
      have q : iv_ald .byte pc al (.int i :: .ref k :: r) h = some (pc + 1, al, .int (σ.1 k i.toNatClampNeg) :: r, none) := by
        show (iv_ai h k).bind _ = _
        rw [fx_ai h1]
        show (if iv_in i n = true ∧ iv_is 3 .byte = true then _ else none) = _
        rw [if_pos ⟨fx_inn g h2, rfl⟩]
        show some (pc + 1, al, Value.int (f i.toNatClampNeg) :: r, none) = _
        rw [h4 _ h3]
      show (match iv_ald .byte pc al (.int i :: .ref k :: r) h with
        | some S => some S
        | none => iv_ald .boolean pc al (.int i :: .ref k :: r) h) = _
      rw [q]
    · obtain ⟨n, f, h1, h2, h3, h4⟩ := fx_R_i R g (Or.inr (Or.inl rfl))
      have q : iv_ald .byte pc al (.int i :: .ref k :: r) h = none := by
        show (iv_ai h k).bind _ = _
        rw [fx_ai h1]
        show (if iv_in i n = true ∧ iv_is 2 .byte = true then _ else none) = _
        rw [if_neg (fun q => absurd q.2 (by decide))]
      have q2 : iv_ald .boolean pc al (.int i :: .ref k :: r) h = some (pc + 1, al, .int (σ.1 k i.toNatClampNeg) :: r, none) := by
        show (iv_ai h k).bind _ = _
        rw [fx_ai h1]
        show (if iv_in i n = true ∧ iv_is 2 .boolean = true then _ else none) = _
        rw [if_pos ⟨fx_inn g h2, rfl⟩]
        show some (pc + 1, al, Value.int (f i.toNatClampNeg) :: r, none) = _
        rw [h4 _ h3]
      show (match iv_ald .byte pc al (.int i :: .ref k :: r) h with
        | some S => some S
        | none => iv_ald .boolean pc al (.int i :: .ref k :: r) h) = _
      rw [q]
      exact q2
  · cases e
theorem fs_laload {i : Int32} {x : Int64} {k : Nat} (hc : iv_cd mi pc = some .laload) (hp : pc + 1 = p) (e : fx_ldl σ k i = some x) (E : fx_E z mi d p al (.long x :: r) σ v τ) : fx_E z mi d pc al (.int i :: .ref k :: r) σ v τ := by
  subst hp
  obtain ⟨g, e⟩ | ⟨g, e⟩ := fx_if e
  · cases e
    refine fx_q hc rfl (fun _ => rfl) (fun h R => ?_) E
    obtain ⟨n, f, h1, h2, h3, h4⟩ := fx_R_l R g
    have q : iv_aj h k = some (1, n, f) := by unfold iv_aj; rw [h1]
    show (iv_aj h k).bind _ = _
    rw [q]
    show (if iv_in i n = true ∧ iv_is 1 .long = true then _ else none) = _
    rw [if_pos ⟨fx_inn g h2, rfl⟩]
    show some (pc + 1, al, Value.long (f i.toNatClampNeg) :: r, none) = _
    rw [h4 _ h3]
  · cases e
theorem fs_aaload {i : Int32} {t k a : Nat} (hc : iv_cd mi pc = some .aaload) (hp : pc + 1 = p) (ht : (Nat.ble 4 t && Nat.blt t 99 && iv_iq t) = true) (e : fx_ldr t k i = some a) (E : fx_E z mi d p al (.ref a :: r) σ v τ) : fx_E z mi d pc al (.int i :: .ref k :: r) σ v τ := by
  subst hp
  simp only [Bool.and_eq_true] at ht
  obtain ⟨⟨t1, t2⟩, t3⟩ := ht
  obtain ⟨g, e⟩ | ⟨g, e⟩ := fx_if e
  · cases e
    refine fx_q hc rfl (fun _ => rfl) (fun h R => ?_) E
    obtain ⟨n, f, h1, h2, h3, h4⟩ := fx_R_r R g ⟨Nat.le_of_ble_eq_true t1, Nat.le_of_ble_eq_true t2⟩
    have q : iv_aq h k = some (t, n, f) := by unfold iv_aq; rw [h1]
    show (iv_aq h k).bind _ = _
    rw [q]
    show (if iv_in i n = true ∧ iv_iq t = true then (match f i.toNatClampNeg with
      | some b => some (pc + 1, al, Value.ref b :: r, none)
      | none => none) else none) = _
    rw [if_pos ⟨fx_inn g h2, t3⟩, h4 _ h3]
  · cases e
theorem fs_iastore {i x : Int32} {k : Nat} (hc : iv_cd mi pc = some .iastore) (hp : pc + 1 = p) (e : fx_st σ k i x = some σ2) (E : fx_E z mi d p al r σ2 v τ) : fx_E z mi d pc al (.int x :: .int i :: .ref k :: r) σ v τ := by
  subst hp
  obtain ⟨g, e⟩ | ⟨g, e⟩ := fx_if e
  · cases e
    refine fx_s hc rfl (fun _ => rfl) (fun h R => ?_) E
    obtain ⟨n, f, h1, h2, h3, h4⟩ := fx_R_i R g (Or.inl rfl)
    refine ⟨k, .inr (0, n, .inl (upd f i.toNatClampNeg x)), _, ?_, h1, rfl, fx_R_1 R h2 (Or.inl rfl) h4⟩
    show (iv_ai h k).bind _ = _
    rw [fx_ai h1]
    show (if iv_in i n = true ∧ iv_is 0 .int = true then _ else none) = _
    rw [if_pos ⟨fx_inn g h2, rfl⟩]
    rfl
  · cases e
theorem fs_lastore {i : Int32} {x : Int64} {k : Nat} (hc : iv_cd mi pc = some .lastore) (hp : pc + 1 = p) (e : fx_stl σ k i x = some σ2) (E : fx_E z mi d p al r σ2 v τ) : fx_E z mi d pc al (.long x :: .int i :: .ref k :: r) σ v τ := by
  subst hp
  obtain ⟨g, e⟩ | ⟨g, e⟩ := fx_if e
  · cases e
    refine fx_s hc rfl (fun _ => rfl) (fun h R => ?_) E
    obtain ⟨n, f, h1, h2, h3, h4⟩ := fx_R_l R g
    refine ⟨k, .inr (1, n, .inr (.inl (vp_updL f i.toNatClampNeg x))), _, ?_, h1, rfl, fx_R_2 R h2 h4⟩
    have q : iv_aj h k = some (1, n, f) := by unfold iv_aj; rw [h1]
    show (iv_aj h k).bind _ = _
    rw [q]
    show (if iv_in i n = true ∧ iv_is 1 .long = true then _ else none) = _
    rw [if_pos ⟨fx_inn g h2, rfl⟩]
  · cases e
theorem fs_bastore {i x : Int32} {k : Nat} (hc : iv_cd mi pc = some .bastore) (hp : pc + 1 = p) (e : fx_stb σ k i x = some σ2) (E : fx_E z mi d p al r σ2 v τ) : fx_E z mi d pc al (.int x :: .int i :: .ref k :: r) σ v τ := by
  subst hp
  obtain ⟨g, e⟩ | ⟨g0, e⟩ := fx_if e
  · cases e
    refine fx_s hc rfl (fun _ => rfl) (fun h R => ?_) E
    obtain ⟨n, f, h1, h2, h3, h4⟩ := fx_R_i R g (Or.inr (Or.inr rfl))
    refine ⟨k, .inr (3, n, .inl (upd f i.toNatClampNeg (vp_nar .byte x))), _, ?_, h1, rfl, fx_R_1 R h2 (Or.inr (Or.inr rfl)) h4⟩
    have q : iv_ast .byte pc al (.int x :: .int i :: .ref k :: r) h = some (pc + 1, al, r, some (some k, .inr (3, n, .inl (upd f i.toNatClampNeg (vp_nar .byte x))))) := by
      show (iv_ai h k).bind _ = _
      rw [fx_ai h1]
      show (if iv_in i n = true ∧ iv_is 3 .byte = true then _ else none) = _
      rw [if_pos ⟨fx_inn g h2, rfl⟩]
    show (match iv_ast .byte pc al (.int x :: .int i :: .ref k :: r) h with
      | some S => some S
      | none => iv_ast .boolean pc al (.int x :: .int i :: .ref k :: r) h) = _
    rw [q]
  · obtain ⟨g, e⟩ | ⟨g, e⟩ := fx_if e
    · cases e
      refine fx_s hc rfl (fun _ => rfl) (fun h R => ?_) E
      obtain ⟨n, f, h1, h2, h3, h4⟩ := fx_R_i R g (Or.inr (Or.inl rfl))
      refine ⟨k, .inr (2, n, .inl (upd f i.toNatClampNeg (vp_nar .boolean x))), _, ?_, h1, rfl, fx_R_1 R h2 (Or.inr (Or.inl rfl)) h4⟩
      have q0 : iv_ast .byte pc al (.int x :: .int i :: .ref k :: r) h = none := by
        show (iv_ai h k).bind _ = _
        rw [fx_ai h1]
        show (if iv_in i n = true ∧ iv_is 2 .byte = true then _ else none) = _
        rw [if_neg (fun q => absurd q.2 (by decide))]
      have q : iv_ast .boolean pc al (.int x :: .int i :: .ref k :: r) h = some (pc + 1, al, r, some (some k, .inr (2, n, .inl (upd f i.toNatClampNeg (vp_nar .boolean x))))) := by
        show (iv_ai h k).bind _ = _
        rw [fx_ai h1]
        show (if iv_in i n = true ∧ iv_is 2 .boolean = true then _ else none) = _
        rw [if_pos ⟨fx_inn g h2, rfl⟩]
      show (match iv_ast .byte pc al (.int x :: .int i :: .ref k :: r) h with
        | some S => some S
        | none => iv_ast .boolean pc al (.int x :: .int i :: .ref k :: r) h) = _
      rw [q0]
      exact q
    · cases e
theorem fs_alen {k : Nat} (hc : iv_cd mi pc = some .arraylength) (hp : pc + 1 = p) (hk : fx_ok (fx_sh k).1 k 0 = true) (ht : fx_sh k = (0, (fx_sh k).2)) (E : fx_E z mi d p al (.int (fx_len k) :: r) σ v τ) : fx_E z mi d pc al (.ref k :: r) σ v τ := by
  subst hp
  refine fx_q hc rfl (fun _ => rfl) (fun h R => ?_) E
  rw [ht] at hk
  obtain ⟨n, f, h1, h2, h3, h4⟩ := fx_R_i R hk (Or.inl rfl)
  show (match h[k]? with
      | some (.inr a) => if (iv_ty[a.1]?).isSome = true then iv_pi (pc + 1) al (Int32.ofNat a.2.1) r else none
      | _ => none) = _
  rw [h1]
  dsimp only
  rw [if_pos (show (iv_ty[0]?).isSome = true from rfl)]
  unfold fx_len
  rw [h2]
  rfl
theorem fs_cpy {idx a b : Nat} {sp dp n : Int32} (hc : iv_cd mi pc = some (.invokestatic idx)) (hp : pc + 3 = p) (hq : (iv_cp (iv_kf mi) idx && (iv_mt (iv_kf mi) idx).isNone) = true) (hr : Nat.ble (r.map fun v => v.category).sum 8 = true) (e : fx_cpy σ a sp b dp n = some σ2) (E : fx_E z mi d p al r σ2 v τ) : fx_E z mi d pc al (.int n :: .int dp :: .ref b :: .int sp :: .ref a :: r) σ v τ := by
  subst hp
  simp only [Bool.and_eq_true] at hq
  obtain ⟨q1, q2⟩ := hq
  obtain ⟨g, e⟩ | ⟨g, e⟩ := fx_if e
  · obtain ⟨a1, b1, a2, b2, s1, s2, s3, s4, s5⟩ := g
    cases e
    have q3 : iv_mt (iv_kf mi) idx = none := Option.isNone_iff_eq_none.mp q2
    refine fx_s hc rfl (fun h => ?_) (fun h R => ?_) E
    · unfold iv_ca
      show (match iv_mt (iv_kf mi) idx with
        | none => none
        | some mj => _) = none
      rw [q3]
    · have la := Nat.le_of_ble_eq_true a1
      have lb := Nat.le_of_ble_eq_true b1
      have cell : ∀ k, k < fx_N → (fx_sh k).1 = 0 → ∃ (m : Nat) (f : Nat → Int32), h[k]? = some (.inr (0, m, .inl f)) ∧ fx_sh k = (0, m) ∧ ∀ j, j < m → f j = σ.1 k j := by
        intro k hk h0
        obtain ⟨c, h1, h2⟩ := R.2 k hk
        match c, h2 with
        | .inl (c, fs), h2 => exact absurd (by rw [← h0, h2.1] : 0 = 100 + c) (by omega)
        | .inr (t', m, .inl f), h2 =>
          obtain ⟨e1, e2, e3⟩ := h2
          have e : t' = 0 := by rw [← h0, e1]
          subst e
          exact ⟨m, f, h1, e1, e3⟩
        | .inr (t', n, .inr (.inl f)), h2 => exact absurd (by rw [← h0, h2.1] : 0 = t') (by have := h2.2.1; omega)
        | .inr (t', n, .inr (.inr (.inl f))), h2 => exact h2.elim
        | .inr (t', n, .inr (.inr (.inr (.inl f)))), h2 => exact h2.elim
        | .inr (t', n, .inr (.inr (.inr (.inr f)))), h2 => exact absurd (by rw [← h0, h2.1] : 0 = t') (by have := h2.2.1; omega)
      obtain ⟨ma, fa, ha1, ha2, ha3⟩ := cell a la a2
      obtain ⟨mb, fb, hb1, hb2, hb3⟩ := cell b lb b2
      rw [ha2] at s4
      rw [hb2] at s5
      refine ⟨b, .inr (0, mb, .inl (va_cpy fa fb sp.toNatClampNeg dp.toNatClampNeg n.toNatClampNeg)), _, ?_, hb1, rfl, ?_⟩
      · show (if iv_cp (iv_kf mi) idx = true then iv_cpy pc al _ h else _) = _
        rw [if_pos q1]
        show ((iv_ai h a).bind fun q => (iv_ai h b).bind fun u => _) = _
        rw [fx_ai ha1, fx_ai hb1]
        show (if 0 ≤ sp ∧ 0 ≤ dp ∧ 0 ≤ n ∧ sp.toNatClampNeg + n.toNatClampNeg ≤ ma ∧ dp.toNatClampNeg + n.toNatClampNeg ≤ mb ∧ iv_is 0 .int = true ∧ iv_is 0 .int = true ∧ (r.map fun v => v.category).sum ≤ 8 then _ else none) = _
        rw [if_pos ⟨s1, s2, s3, s4, s5, rfl, rfl, Nat.le_of_ble_eq_true hr⟩]
      · refine fx_R_set R ⟨hb2, Or.inl rfl, fun j hj => ?_⟩ fun k c' hk hc' => ?_
        · show (if dp.toNatClampNeg ≤ j ∧ j < dp.toNatClampNeg + n.toNatClampNeg then fa (sp.toNatClampNeg + (j - dp.toNatClampNeg)) else fb j) = if b = b ∧ dp.toNatClampNeg ≤ j ∧ j < dp.toNatClampNeg + n.toNatClampNeg then σ.1 a (sp.toNatClampNeg + (j - dp.toNatClampNeg)) else σ.1 b j
          by_cases q : dp.toNatClampNeg ≤ j ∧ j < dp.toNatClampNeg + n.toNatClampNeg
          · rw [if_pos q, if_pos ⟨rfl, q⟩]
            exact ha3 _ (by omega)
          · rw [if_neg q, if_neg (fun u => q u.2)]
            exact hb3 j hj
        · have e : ∀ i, (fx_cp σ a sp.toNatClampNeg b dp.toNatClampNeg n.toNatClampNeg).1 k i = σ.1 k i := fun i => if_neg fun q => hk q.1
          match c', hc' with
          | .inl (c, fs), hh =>
            refine ⟨hh.1, fun i hi => (hh.2 i hi).trans ?_⟩
            unfold fx_fv
            rw [e]
            rfl
          | .inr (t, n, .inl f), hh => exact ⟨hh.1, hh.2.1, fun i hi => (hh.2.2 i hi).trans (e i).symm⟩
          | .inr (t, n, .inr (.inl f)), hh => exact hh
          | .inr (t, n, .inr (.inr (.inl f))), hh => exact hh.elim
          | .inr (t, n, .inr (.inr (.inr (.inl f)))), hh => exact hh.elim
          | .inr (t, n, .inr (.inr (.inr (.inr f)))), hh => exact hh
  · cases e
theorem fs_min {idx : Nat} {x y : Int32} (hc : iv_cd mi pc = some (.invokestatic idx)) (hp : pc + 3 = p) (hq : (!(iv_cp (iv_kf mi) idx) && iv_mm (iv_kf mi) idx && (iv_mt (iv_kf mi) idx).isNone) = true) (hr : Nat.ble (r.map fun v => v.category).sum 8 = true) (E : fx_E z mi d p al (.int (if y < x then y else x) :: r) σ v τ) : fx_E z mi d pc al (.int y :: .int x :: r) σ v τ := by
  subst hp
  simp only [Bool.and_eq_true, Bool.not_eq_true'] at hq
  obtain ⟨⟨q1, q2⟩, q3⟩ := hq
  have q4 : iv_mt (iv_kf mi) idx = none := Option.isNone_iff_eq_none.mp q3
  refine fx_p hc rfl (fun h => ?_) (fun h => ?_) E
  · unfold iv_ca
    show (match iv_mt (iv_kf mi) idx with
      | none => none
      | some mj => _) = none
    rw [q4]
  · show (if iv_cp (iv_kf mi) idx = true then iv_cpy pc al _ h else if iv_mm (iv_kf mi) idx = true then iv_min pc al (.int y :: .int x :: r) else _) = _
    rw [if_neg (by rw [q1]; decide), if_pos q2]
    show (if (r.map fun v => v.category).sum ≤ 8 then _ else none) = _
    rw [if_pos (Nat.le_of_ble_eq_true hr)]
    rfl
theorem fs_max {idx : Nat} {x y : Int32} (hc : iv_cd mi pc = some (.invokestatic idx)) (hp : pc + 3 = p) (hq : (!(iv_cp (iv_kf mi) idx) && !(iv_mm (iv_kf mi) idx) && iv_ma (iv_kf mi) idx && (iv_mt (iv_kf mi) idx).isNone) = true) (hr : Nat.ble (r.map fun v => v.category).sum 8 = true) (E : fx_E z mi d p al (.int (if x < y then y else x) :: r) σ v τ) : fx_E z mi d pc al (.int y :: .int x :: r) σ v τ := by
  subst hp
  simp only [Bool.and_eq_true, Bool.not_eq_true'] at hq
  obtain ⟨⟨⟨q1, q2⟩, q5⟩, q3⟩ := hq
  have q4 : iv_mt (iv_kf mi) idx = none := Option.isNone_iff_eq_none.mp q3
  refine fx_p hc rfl (fun h => ?_) (fun h => ?_) E
  · unfold iv_ca
    show (match iv_mt (iv_kf mi) idx with
      | none => none
      | some mj => _) = none
    rw [q4]
  · show (if iv_cp (iv_kf mi) idx = true then iv_cpy pc al _ h else if iv_mm (iv_kf mi) idx = true then iv_min pc al (.int y :: .int x :: r) else if iv_ma (iv_kf mi) idx = true then iv_max pc al (.int y :: .int x :: r) else _) = _
    rw [if_neg (by rw [q1]; decide), if_neg (by rw [q2]; decide), if_pos q5]
    show (if (r.map fun v => v.category).sum ≤ 8 then _ else none) = _
    rw [if_pos (Nat.le_of_ble_eq_true hr)]
    rfl
theorem fs_abi {idx : Nat} {x : Int32} (hc : iv_cd mi pc = some (.invokestatic idx)) (hp : pc + 3 = p) (hq : (!(iv_cp (iv_kf mi) idx) && !(iv_mm (iv_kf mi) idx) && !(iv_ma (iv_kf mi) idx) && iv_ab (iv_kf mi) idx && (iv_mt (iv_kf mi) idx).isNone) = true) (hr : Nat.ble (r.map fun v => v.category).sum 8 = true) (E : fx_E z mi d p al (.int (if 0 ≤ x then x else 0 - x) :: r) σ v τ) : fx_E z mi d pc al (.int x :: r) σ v τ := by
  subst hp
  simp only [Bool.and_eq_true, Bool.not_eq_true'] at hq
  obtain ⟨⟨⟨⟨q1, q2⟩, q5⟩, q6⟩, q3⟩ := hq
  have q4 : iv_mt (iv_kf mi) idx = none := Option.isNone_iff_eq_none.mp q3
  refine fx_p hc rfl (fun h => ?_) (fun h => ?_) E
  · unfold iv_ca
    show (match iv_mt (iv_kf mi) idx with
      | none => none
      | some mj => _) = none
    rw [q4]
  · show (if iv_cp (iv_kf mi) idx = true then iv_cpy pc al _ h else if iv_mm (iv_kf mi) idx = true then iv_min pc al (.int x :: r) else if iv_ma (iv_kf mi) idx = true then iv_max pc al (.int x :: r) else if iv_ab (iv_kf mi) idx = true then iv_abi pc al (.int x :: r) else _) = _
    rw [if_neg (by rw [q1]; decide), if_neg (by rw [q2]; decide), if_neg (by rw [q5]; decide), if_pos q6]
    show (if (r.map fun v => v.category).sum ≤ 8 then _ else none) = _
    rw [if_pos (Nat.le_of_ble_eq_true hr)]
    rfl
theorem fs_abl {idx : Nat} {x : Int64} (hc : iv_cd mi pc = some (.invokestatic idx)) (hp : pc + 3 = p) (hq : (!(iv_cp (iv_kf mi) idx) && !(iv_mm (iv_kf mi) idx) && !(iv_ma (iv_kf mi) idx) && !(iv_ab (iv_kf mi) idx) && iv_lb (iv_kf mi) idx && (iv_mt (iv_kf mi) idx).isNone) = true) (hr : Nat.ble (r.map fun v => v.category).sum 8 = true) (E : fx_E z mi d p al (.long (if 0 < x then x else -x) :: r) σ v τ) : fx_E z mi d pc al (.long x :: r) σ v τ := by
  subst hp
  simp only [Bool.and_eq_true, Bool.not_eq_true'] at hq
  obtain ⟨⟨⟨⟨⟨q1, q2⟩, q5⟩, q7⟩, q6⟩, q3⟩ := hq
  have q4 : iv_mt (iv_kf mi) idx = none := Option.isNone_iff_eq_none.mp q3
  refine fx_p hc rfl (fun h => ?_) (fun h => ?_) E
  · unfold iv_ca
    show (match iv_mt (iv_kf mi) idx with
      | none => none
      | some mj => _) = none
    rw [q4]
  · show (if iv_cp (iv_kf mi) idx = true then iv_cpy pc al _ h else if iv_mm (iv_kf mi) idx = true then iv_min pc al (.long x :: r) else if iv_ma (iv_kf mi) idx = true then iv_max pc al (.long x :: r) else if iv_ab (iv_kf mi) idx = true then iv_abi pc al (.long x :: r) else if iv_lb (iv_kf mi) idx = true then iv_abl pc al (.long x :: r) else _) = _
    rw [if_neg (by rw [q1]; decide), if_neg (by rw [q2]; decide), if_neg (by rw [q5]; decide), if_neg (by rw [q7]; decide), if_pos q6]
    show (if (r.map fun v => v.category).sum ≤ 8 then _ else none) = _
    rw [if_pos (Nat.le_of_ble_eq_true hr)]
    rfl
/-- returns -/
theorem fx_ret {op : Jvm.ClassFile.Instr} {st : List Value} (hc : iv_cd mi pc = some op) (h0 : iv_isr op = true) (h1 : iv_re mi op st = some v) : fx_E z mi d pc al st σ v σ := by
  intro h R
  refine ⟨1, h, ?_, R⟩
  unfold iv_run
  dsimp only
  rw [hc]
  dsimp only
  rw [if_pos h0, h1]
  rfl
theorem fs_ret (hc : iv_cd mi pc = some .return_) (hr : iv_rt mi = none) : fx_E z mi d pc al [] σ none σ := fx_ret hc rfl (by show (if iv_rt mi = none then some none else none) = _; rw [if_pos hr])
theorem fs_iret {x : Int32} (hc : iv_cd mi pc = some .ireturn) (hr : iv_rt mi = some .int) : fx_E z mi d pc al [.int x] σ (some (Value.int x)) σ := fx_ret hc rfl (by
  show (if iv_ro (iv_rt mi) (Value.int x) = true then some (some (Value.int x)) else none) = _
  rw [hr, if_pos (show iv_ro (some .int) (Value.int x) = true from rfl)])
theorem fx_okb (b : Bool) : iv_ok .boolean (Value.int (fx_b b)) = true := by cases b <;> rfl
theorem fx_oki (x : Int32) {ci j : Nat} (h : iv_ft ci j = .int) : iv_ok (iv_ft ci j) (Value.int x) = true := (congrArg (fun t => iv_ok t (Value.int x)) h).trans rfl
theorem fx_okz (b : Bool) {ci j : Nat} (h : iv_ft ci j = .boolean) : iv_ok (iv_ft ci j) (Value.int (fx_b b)) = true := (congrArg (fun t => iv_ok t (Value.int (fx_b b))) h).trans (fx_okb b)
theorem fx_okd {x : Int32} {ci j : Nat} (hx : x = 0 ∨ x = 1) (h : iv_ft ci j = .boolean) : iv_ok (iv_ft ci j) (Value.int x) = true := (congrArg (fun t => iv_ok t (Value.int x)) h).trans (by rcases hx with e | e <;> subst e <;> rfl)
theorem fs_zret {b : Bool} (hc : iv_cd mi pc = some .ireturn) (hr : iv_rt mi = some .boolean) : fx_E z mi d pc al [.int (fx_b b)] σ (some (Value.int (fx_b b))) σ := fx_ret hc rfl (by
  show (if iv_ro (iv_rt mi) (Value.int (fx_b b)) = true then some (some (Value.int (fx_b b))) else none) = _
  rw [hr, if_pos (show iv_ro (some .boolean) (Value.int (fx_b b)) = true from fx_okb b)])
theorem fs_lret {x : Int64} (hc : iv_cd mi pc = some .lreturn) (hr : iv_rt mi = some .long) : fx_E z mi d pc al [.long x] σ (some (Value.long x)) σ := fx_ret hc rfl (by
  show (if iv_ro (iv_rt mi) (Value.long x) = true then some (some (Value.long x)) else none) = _
  rw [hr, if_pos (show iv_ro (some .long) (Value.long x) = true from rfl)])
theorem fs_aret {x : Nat} (hc : iv_cd mi pc = some .areturn) (hr : iv_rq (iv_rt mi) = true) : fx_E z mi d pc al [.ref x] σ (some (Value.ref x)) σ := fx_ret hc rfl (by
  show (if iv_rq (iv_rt mi) = true then some (some (Value.ref x)) else none) = _
  rw [if_pos hr])
/-- calls -/
theorem fx_call {op : Jvm.ClassFile.Instr} {st args rest : List Value} {mj : Nat} {u : Option Value} (hc : iv_cd mi pc = some op) (h0 : iv_isr op = false) (h1 : ∀ h : iv_H, fx_R σ h → iv_ca mi op st h = some (mj, args, rest)) (hd : 0 < d) (C : ∀ d', d = d' + 1 → fx_E none mj d' 0 (iv_en mj args) [] σ u σ2) (E : fx_E z mi d (pc + 3) al (u.toList ++ rest) σ2 v τ) : fx_E z mi d pc al st σ v τ := by
  intro h R
  obtain ⟨d', rfl⟩ : ∃ d', d = d' + 1 := ⟨d - 1, by omega⟩
  obtain ⟨n1, h2, e1, R2⟩ := C d' rfl h R
  obtain ⟨n2, h3, e2, R3⟩ := E h2 R2
  refine ⟨max n1 n2 + 1, h3, ?_, R3⟩
  unfold iv_run
  dsimp only
  rw [hc]
  dsimp only
  rw [if_neg (by rw [h0]; decide), h1 h R]
  dsimp only
  rw [iv_run_up e1 (Nat.le_max_left n1 n2)]
  dsimp only
  exact iv_run_up e2 (Nat.le_max_right n1 n2)
/-- what is asked of a call's numbers: na arguments, mx locals of the callee -/
def fx_kS (mi idx mj na mx : Nat) : Bool := decide (iv_mt (iv_kf mi) idx = some mj) && Nat.beq (iv_na mj) na && decide (iv_rc mj = none) && !(iv_ini mj) && Nat.beq (iv_mx mj) mx
def fx_kV (mi idx mj ci na mx : Nat) : Bool := decide (iv_mt (iv_kf mi) idx = some mj) && Nat.beq (iv_na mj) na && decide (iv_rc mj = some ci) && !(iv_ini mj) && Nat.beq (iv_mx mj) mx && (iv_nn (iv_kf mi) idx).isNone
theorem fs_callS {idx mj na mx : Nat} {st args rest st2 : List Value} {al2 : iv_L} {u : Option Value} (hc : iv_cd mi pc = some (.invokestatic idx)) (hp : pc + 3 = p) (hk : fx_kS mi idx mj na mx = true) (ha : (st.take na).reverse = args) (hr : st.drop na = rest) (hl : Nat.beq (st.take na).length na = true) (hn : iv_nr (st.take na) = true) (hx : Nat.ble (iv_ex args).length mx = true) (hs : Nat.ble (rest.map fun v => v.category).sum 8 = true) (he : iv_ex args ++ List.replicate (mx - (iv_ex args).length) none = al2) (hd : 0 < d) (C : ∀ d', d = d' + 1 → fx_E none mj d' 0 al2 [] σ u σ2) (h2 : u.toList ++ rest = st2) (E : fx_E z mi d p al st2 σ2 v τ) : fx_E z mi d pc al st σ v τ := by
  subst hp ha hr he h2
  simp only [fx_kS, Bool.and_eq_true, decide_eq_true_eq, Bool.not_eq_true'] at hk
  obtain ⟨⟨⟨⟨k1, k2⟩, k3⟩, k4⟩, k5⟩ := hk
  have k2 := Nat.eq_of_beq_eq_true k2
  have k5 := Nat.eq_of_beq_eq_true k5
  refine fx_call (mj := mj) (args := (st.take na).reverse) (rest := st.drop na) hc rfl (fun h R => ?_) hd (fun d' e => ?_) E
  · unfold iv_ca
    show (match iv_mt (iv_kf mi) idx with
      | none => none
      | some mj => _) = _
    rw [k1]
    dsimp only
    rw [k2, if_pos ⟨Nat.eq_of_beq_eq_true hl, hn, by unfold iv_rx; rw [k3, k5]; have := Nat.le_of_ble_eq_true hx; show _ + 1 ≤ mx + 1; omega⟩, if_pos (show (2 : Nat) = 2 from rfl), if_pos ⟨k3, k4, Nat.le_of_ble_eq_true hs⟩]
  · have := C d' e
    unfold iv_en
    rw [k5]
    exact this
theorem fs_callV {idx mj ci na mx k : Nat} {st args rest st2 : List Value} {al2 : iv_L} {u : Option Value} (hc : iv_cd mi pc = some (.invokevirtual idx)) (hp : pc + 3 = p) (hk : fx_kV mi idx mj ci na mx = true) (ho : fx_oc k ci = true) (ha : .ref k :: (st.take na).reverse = args) (hr : st.drop na = .ref k :: rest) (hl : Nat.beq (st.take na).length na = true) (hn : iv_nr (st.take na) = true) (hx : Nat.ble (iv_ex args).length mx = true) (hs : Nat.ble (rest.map fun v => v.category).sum 8 = true) (he : iv_ex args ++ List.replicate (mx - (iv_ex args).length) none = al2) (hd : 0 < d) (C : ∀ d', d = d' + 1 → fx_E none mj d' 0 al2 [] σ u σ2) (h2 : u.toList ++ rest = st2) (E : fx_E z mi d p al st2 σ2 v τ) : fx_E z mi d pc al st σ v τ := by
  subst hp ha he h2
  simp only [fx_kV, Bool.and_eq_true, decide_eq_true_eq, Bool.not_eq_true'] at hk
  obtain ⟨⟨⟨⟨⟨k1, k2⟩, k3⟩, k4⟩, k5⟩, k6⟩ := hk
  have k2 := Nat.eq_of_beq_eq_true k2
  have k5 := Nat.eq_of_beq_eq_true k5
  refine fx_call (mj := mj) (args := .ref k :: (st.take na).reverse) (rest := rest) hc rfl (fun h R => ?_) hd (fun d' e => ?_) E
  · obtain ⟨fs, g1, g2, g3⟩ := fx_R_o R ho
    have hx' : (iv_ex (st.take na).reverse).length + 1 ≤ mx := Nat.le_of_ble_eq_true hx
    unfold iv_ca
    show (match iv_mt (iv_kf mi) idx with
      | none => none
      | some mj => _) = _
    rw [k1]
    dsimp only
    rw [k2, if_pos ⟨Nat.eq_of_beq_eq_true hl, hn, by unfold iv_rx; rw [k3, k5]; show _ + 1 ≤ mx + 0; omega⟩, if_neg (show ¬ (0 : Nat) = 2 by decide), hr]
    show (match iv_rc mj with
      | none => none
      | some ci => _) = _
    rw [k3]
    dsimp only
    rw [if_pos ⟨by unfold iv_oc; rw [g1]; exact decide_eq_true rfl, Nat.le_of_ble_eq_true hs, by rw [k4]; rfl, Or.inr (Option.isNone_iff_eq_none.mp k6)⟩]
  · have := C d' e
    unfold iv_en
    rw [k5]
    exact this
end
/-- the law's own script -/
def fx_lds (L : Nat) (xs : Nat → Int32) (i : Int32) : Option Int32 := if iv_in i L = true then some (xs i.toNatClampNeg) else none
theorem fs_iaload_s {L a mi d pc p : Nat} {xs : Nat → Int32} {al : iv_L} {r : List Value} {σ τ : fx_S} {v : Option Value} {i x : Int32} (hc : iv_cd mi pc = some .iaload) (hp : pc + 1 = p) (e : fx_lds L xs i = some x) (E : fx_E (some (L, xs)) mi d p al (.int x :: r) σ v τ) : fx_E (some (L, xs)) mi d pc al (.int i :: .retAddr a :: r) σ v τ := by
  subst hp
  obtain ⟨g, e⟩ | ⟨g, e⟩ := fx_if e
  · cases e
    refine fx_p hc rfl (fun _ => rfl) (fun _ => ?_) E
    show (if iv_in i L = true then iv_pi (pc + 1) al (xs i.toNatClampNeg) r else none) = _
    rw [if_pos g]
    rfl
  · cases e
theorem fs_alen_s {L a mi d pc p : Nat} {xs : Nat → Int32} {al : iv_L} {r : List Value} {σ τ : fx_S} {v : Option Value} (hc : iv_cd mi pc = some .arraylength) (hp : pc + 1 = p) (E : fx_E (some (L, xs)) mi d p al (.int (Int32.ofNat L) :: r) σ v τ) : fx_E (some (L, xs)) mi d pc al (.retAddr a :: r) σ v τ := by
  subst hp
  exact fx_p hc rfl (fun _ => rfl) (fun _ => rfl) E
theorem fx_gd {α : Type} {c : Prop} [Decidable c] {a : Option α} {r : α} (h : (if c then a else none) = some r) : c ∧ a = some r := by
  by_cases q : c
  · rw [if_pos q] at h; exact ⟨q, h⟩
  · rw [if_neg q] at h; cases h
end
section
/-! ROWS of doubles and floats -/
section
variable {z : iv_Z} {mi d pc p : Nat} {al al' : iv_L} {r : List Value} {σ τ σ2 : fx_S} {v : Option Value}
theorem fs_dconst {n : Fin 2} {x : UInt64} (hc : iv_cd mi pc = some (.dconst n)) (hp : pc + 1 = p) (hx : (bif Nat.beq (n : Nat) 0 then FP.dconst0 else FP.dconst1) = x) (E : fx_E z mi d p al (.double x :: r) σ v τ) : fx_E z mi d pc al (r) σ v τ := by
  subst hp hx
  exact fx_p hc rfl (fun _ => rfl) (fun _ => rfl) E
theorem fs_ldc2d {idx : Nat} {x : UInt64} (hc : iv_cd mi pc = some (.ldc2_w idx)) (hp : pc + 3 = p) (h0 : iv_l2 (iv_kf mi) idx = none) (hx : id_lc (iv_kf mi) idx = some x) (E : fx_E z mi d p al (.double x :: r) σ v τ) : fx_E z mi d pc al (r) σ v τ := by
  subst hp
  exact fx_p hc rfl (fun _ => rfl) (fun _ => (by show id_l2 mi (pc + 3) idx al r = _; unfold id_l2; rw [h0]; dsimp only; rw [hx]; rfl)) E
theorem fs_dload_n {k : Fin 4} {x : UInt64} (hc : iv_cd mi pc = some (.dload_n k)) (hp : pc + 1 = p) (hl : al[(k : Nat)]? = some (some (.double x))) (E : fx_E z mi d p al (.double x :: r) σ v τ) : fx_E z mi d pc al (r) σ v τ := by
  subst hp
  exact fx_p hc rfl (fun _ => rfl) (fun _ => (by show id_ld al (k : Nat) _ = _; unfold id_ld; rw [hl]; rfl)) E
theorem fs_dload {k : Nat} {x : UInt64} (hc : iv_cd mi pc = some (.dload k)) (hp : pc + 2 = p) (hl : al[(k : Nat)]? = some (some (.double x))) (E : fx_E z mi d p al (.double x :: r) σ v τ) : fx_E z mi d pc al (r) σ v τ := by
  subst hp
  exact fx_p hc rfl (fun _ => rfl) (fun _ => (by show id_ld al (k : Nat) _ = _; unfold id_ld; rw [hl]; rfl)) E
theorem fs_fload_n {k : Fin 4} {x : UInt32} (hc : iv_cd mi pc = some (.fload_n k)) (hp : pc + 1 = p) (hl : al[(k : Nat)]? = some (some (.float x))) (E : fx_E z mi d p al (.float x :: r) σ v τ) : fx_E z mi d pc al (r) σ v τ := by
  subst hp
  exact fx_p hc rfl (fun _ => rfl) (fun _ => (by show id_lf al (k : Nat) _ = _; unfold id_lf; rw [hl]; rfl)) E
theorem fs_dstore_n {k : Fin 4} {x : UInt64} {M : Nat} (hc : iv_cd mi pc = some (.dstore_n k)) (hp : pc + 1 = p) (hm : iv_mx mi = M) (hk : Nat.ble ((k : Nat) + 2) M = true) (ha : fx_s2 al (k : Nat) (.double x) = al') (E : fx_E z mi d p al' (r) σ v τ) : fx_E z mi d pc al (.double x :: r) σ v τ := by
  subst hp ha
  refine fx_p hc rfl (fun _ => rfl) (fun _ => ?_) E
  show iv_sl mi (k : Nat) 1 _ = _
  unfold iv_sl
  rw [hm, if_pos (show (k : Nat) + 1 < M from Nat.le_of_ble_eq_true hk), fx_s2_s]
theorem fs_dstore {k : Nat} {x : UInt64} {M : Nat} (hc : iv_cd mi pc = some (.dstore k)) (hp : pc + 2 = p) (hm : iv_mx mi = M) (hk : Nat.ble ((k : Nat) + 2) M = true) (ha : fx_s2 al (k : Nat) (.double x) = al') (E : fx_E z mi d p al' (r) σ v τ) : fx_E z mi d pc al (.double x :: r) σ v τ := by
  subst hp ha
  refine fx_p hc rfl (fun _ => rfl) (fun _ => ?_) E
  show iv_sl mi (k : Nat) 1 _ = _
  unfold iv_sl
  rw [hm, if_pos (show (k : Nat) + 1 < M from Nat.le_of_ble_eq_true hk), fx_s2_s]
theorem fs_dadd {x y : UInt64} (hc : iv_cd mi pc = some .dadd) (hp : pc + 1 = p) (hn : id_n6 (FP.dadd x y) = true) (E : fx_E z mi d p al (.double (FP.dadd x y) :: r) σ v τ) : fx_E z mi d pc al (.double y :: .double x :: r) σ v τ := by
  subst hp
  exact fx_p hc rfl (fun _ => rfl) (fun _ => (by show (if id_n6 (FP.dadd x y) = true then _ else none) = _; rw [if_pos hn]; rfl)) E
theorem fs_dsub {x y : UInt64} (hc : iv_cd mi pc = some .dsub) (hp : pc + 1 = p) (hn : id_n6 (FP.dsub x y) = true) (E : fx_E z mi d p al (.double (FP.dsub x y) :: r) σ v τ) : fx_E z mi d pc al (.double y :: .double x :: r) σ v τ := by
  subst hp
  exact fx_p hc rfl (fun _ => rfl) (fun _ => (by show (if id_n6 (FP.dsub x y) = true then _ else none) = _; rw [if_pos hn]; rfl)) E
theorem fs_dmul {x y : UInt64} (hc : iv_cd mi pc = some .dmul) (hp : pc + 1 = p) (hn : id_n6 (FP.dmul x y) = true) (E : fx_E z mi d p al (.double (FP.dmul x y) :: r) σ v τ) : fx_E z mi d pc al (.double y :: .double x :: r) σ v τ := by
  subst hp
  exact fx_p hc rfl (fun _ => rfl) (fun _ => (by show (if id_n6 (FP.dmul x y) = true then _ else none) = _; rw [if_pos hn]; rfl)) E
theorem fs_ddiv {x y : UInt64} (hc : iv_cd mi pc = some .ddiv) (hp : pc + 1 = p) (hn : id_n6 (FP.ddiv x y) = true) (E : fx_E z mi d p al (.double (FP.ddiv x y) :: r) σ v τ) : fx_E z mi d pc al (.double y :: .double x :: r) σ v τ := by
  subst hp
  exact fx_p hc rfl (fun _ => rfl) (fun _ => (by show (if id_n6 (FP.ddiv x y) = true then _ else none) = _; rw [if_pos hn]; rfl)) E
theorem fs_drem {x y : UInt64} (hc : iv_cd mi pc = some .drem) (hp : pc + 1 = p) (hn : id_n6 (FP.drem x y) = true) (E : fx_E z mi d p al (.double (FP.drem x y) :: r) σ v τ) : fx_E z mi d pc al (.double y :: .double x :: r) σ v τ := by
  subst hp
  exact fx_p hc rfl (fun _ => rfl) (fun _ => (by show (if id_n6 (FP.drem x y) = true then _ else none) = _; rw [if_pos hn]; rfl)) E
theorem fs_dcmp {x y : UInt64} {c : CmpOp} (hc : iv_cd mi pc = some (.dcmp c)) (hp : pc + 1 = p) (E : fx_E z mi d p al (.int (Op.cmpValue (FP.dcmp x y) c) :: r) σ v τ) : fx_E z mi d pc al (.double y :: .double x :: r) σ v τ := by
  subst hp
  exact fx_p hc rfl (fun _ => rfl) (fun _ => rfl) E
theorem fs_i2d {x : Int32} (hc : iv_cd mi pc = some .i2d) (hp : pc + 1 = p) (E : fx_E z mi d p al (.double (FP.i2d x) :: r) σ v τ) : fx_E z mi d pc al (.int x :: r) σ v τ := by
  subst hp
  exact fx_p hc rfl (fun _ => rfl) (fun _ => rfl) E
theorem fs_l2d {x : Int64} (hc : iv_cd mi pc = some .l2d) (hp : pc + 1 = p) (E : fx_E z mi d p al (.double (FP.l2d x) :: r) σ v τ) : fx_E z mi d pc al (.long x :: r) σ v τ := by
  subst hp
  exact fx_p hc rfl (fun _ => rfl) (fun _ => rfl) E
theorem fs_d2l {x : UInt64} (hc : iv_cd mi pc = some .d2l) (hp : pc + 1 = p) (E : fx_E z mi d p al (.long (FP.d2l x) :: r) σ v τ) : fx_E z mi d pc al (.double x :: r) σ v τ := by
  subst hp
  exact fx_p hc rfl (fun _ => rfl) (fun _ => rfl) E
theorem fs_d2f {x : UInt64} (hc : iv_cd mi pc = some .d2f) (hp : pc + 1 = p) (hn : id_n3 (FP.d2f x) = true) (E : fx_E z mi d p al (.float (FP.d2f x) :: r) σ v τ) : fx_E z mi d pc al (.double x :: r) σ v τ := by
  subst hp
  exact fx_p hc rfl (fun _ => rfl) (fun _ => (by show (if id_n3 (FP.d2f x) = true then _ else none) = _; rw [if_pos hn]; rfl)) E
theorem fs_f2d {x : UInt32} (hc : iv_cd mi pc = some .f2d) (hp : pc + 1 = p) (hn : id_n6 (FP.f2d x) = true) (E : fx_E z mi d p al (.double (FP.f2d x) :: r) σ v τ) : fx_E z mi d pc al (.float x :: r) σ v τ := by
  subst hp
  exact fx_p hc rfl (fun _ => rfl) (fun _ => (by show (if id_n6 (FP.f2d x) = true then _ else none) = _; rw [if_pos hn]; rfl)) E
theorem fx_jd {k idx : Nat} {st : List Value} {h : iv_H} {o : iv_O} (hq : (!(iv_cp (iv_kf mi) idx) && !(iv_mm (iv_kf mi) idx) && !(iv_ma (iv_kf mi) idx) && !(iv_ab (iv_kf mi) idx) && !(iv_lb (iv_kf mi) idx) && (iv_mt (iv_kf mi) idx).isNone && decide (id_dj (iv_kf mi) idx = some k)) = true) (ho : id_cl k pc al st = some o) : iv_ca mi (.invokestatic idx) st h = none ∧ iv_op z mi pc (.invokestatic idx) al st h = some o := by
  simp only [Bool.and_eq_true, Bool.not_eq_true', decide_eq_true_eq] at hq
  obtain ⟨⟨⟨⟨⟨⟨q1, q2⟩, q3⟩, q4⟩, q5⟩, q6⟩, q7⟩ := hq
  have q8 : iv_mt (iv_kf mi) idx = none := Option.isNone_iff_eq_none.mp q6
  constructor
  · unfold iv_ca
    show (match iv_mt (iv_kf mi) idx with
      | none => none
      | some mj => _) = none
    rw [q8]
  · show (if iv_cp (iv_kf mi) idx = true then iv_cpy pc al _ h else if iv_mm (iv_kf mi) idx = true then iv_min pc al st else if iv_ma (iv_kf mi) idx = true then iv_max pc al st else if iv_ab (iv_kf mi) idx = true then iv_abi pc al st else if iv_lb (iv_kf mi) idx = true then iv_abl pc al st else id_jc mi pc idx al st) = _
    rw [if_neg (by rw [q1]; decide), if_neg (by rw [q2]; decide), if_neg (by rw [q3]; decide), if_neg (by rw [q4]; decide), if_neg (by rw [q5]; decide)]
    unfold id_jc
    rw [q7]
    exact ho
theorem fx_c8 {c : Bool} (hc : c = true) (hr : Nat.ble (r.map fun v => v.category).sum 8 = true) : (c && id_c8 r) = true := by
  rw [hc, Bool.true_and]
  exact decide_eq_true (Nat.le_of_ble_eq_true hr)
theorem fs_jdk1 {idx : Nat} {x : UInt64} (hc : iv_cd mi pc = some (.invokestatic idx)) (hp : pc + 3 = p) (hq : (!(iv_cp (iv_kf mi) idx) && !(iv_mm (iv_kf mi) idx) && !(iv_ma (iv_kf mi) idx) && !(iv_ab (iv_kf mi) idx) && !(iv_lb (iv_kf mi) idx) && (iv_mt (iv_kf mi) idx).isNone && decide (id_dj (iv_kf mi) idx = some 1)) = true) (hr : Nat.ble (r.map fun v => v.category).sum 8 = true) (hn : id_n6 x = true) (E : fx_E z mi d p al (.long x.toInt64 :: r) σ v τ) : fx_E z mi d pc al (.double x :: r) σ v τ := by
  subst hp
  have ho : id_cl 1 pc al (.double x :: r) = some (pc + 3, al, .long x.toInt64 :: r, none) := by
    show (if (id_n6 x && id_c8 r) = true then _ else none) = _
    rw [if_pos (fx_c8 hn hr)]
    rfl
  exact fx_p hc rfl (fun h => (fx_jd (z := z) hq ho).1) (fun h => (fx_jd hq ho).2) E
theorem fs_jdk2 {idx : Nat} {x : UInt32} (hc : iv_cd mi pc = some (.invokestatic idx)) (hp : pc + 3 = p) (hq : (!(iv_cp (iv_kf mi) idx) && !(iv_mm (iv_kf mi) idx) && !(iv_ma (iv_kf mi) idx) && !(iv_ab (iv_kf mi) idx) && !(iv_lb (iv_kf mi) idx) && (iv_mt (iv_kf mi) idx).isNone && decide (id_dj (iv_kf mi) idx = some 2)) = true) (hr : Nat.ble (r.map fun v => v.category).sum 8 = true) (hn : id_n3 x = true) (E : fx_E z mi d p al (.int x.toInt32 :: r) σ v τ) : fx_E z mi d pc al (.float x :: r) σ v τ := by
  subst hp
  have ho : id_cl 2 pc al (.float x :: r) = some (pc + 3, al, .int x.toInt32 :: r, none) := by
    show (if (id_n3 x && id_c8 r) = true then _ else none) = _
    rw [if_pos (fx_c8 hn hr)]
    rfl
  exact fx_p hc rfl (fun h => (fx_jd (z := z) hq ho).1) (fun h => (fx_jd hq ho).2) E
theorem fs_jdk3 {idx : Nat} {x : UInt64} (hc : iv_cd mi pc = some (.invokestatic idx)) (hp : pc + 3 = p) (hq : (!(iv_cp (iv_kf mi) idx) && !(iv_mm (iv_kf mi) idx) && !(iv_ma (iv_kf mi) idx) && !(iv_ab (iv_kf mi) idx) && !(iv_lb (iv_kf mi) idx) && (iv_mt (iv_kf mi) idx).isNone && decide (id_dj (iv_kf mi) idx = some 3)) = true) (hr : Nat.ble (r.map fun v => v.category).sum 8 = true) (hn : id_n6 x = true) (E : fx_E z mi d p al (.double (x &&& 0x7fffffffffffffff) :: r) σ v τ) : fx_E z mi d pc al (.double x :: r) σ v τ := by
  subst hp
  have ho : id_cl 3 pc al (.double x :: r) = some (pc + 3, al, .double (x &&& 0x7fffffffffffffff) :: r, none) := by
    show (if (id_n6 x && id_c8 r) = true then _ else none) = _
    rw [if_pos (fx_c8 hn hr)]
    rfl
  exact fx_p hc rfl (fun h => (fx_jd (z := z) hq ho).1) (fun h => (fx_jd hq ho).2) E
theorem fs_jdk4 {idx : Nat} {x : UInt64} (hc : iv_cd mi pc = some (.invokestatic idx)) (hp : pc + 3 = p) (hq : (!(iv_cp (iv_kf mi) idx) && !(iv_mm (iv_kf mi) idx) && !(iv_ma (iv_kf mi) idx) && !(iv_ab (iv_kf mi) idx) && !(iv_lb (iv_kf mi) idx) && (iv_mt (iv_kf mi) idx).isNone && decide (id_dj (iv_kf mi) idx = some 4)) = true) (hr : Nat.ble (r.map fun v => v.category).sum 8 = true) (hn : id_n6 x = true) (E : fx_E z mi d p al (.double (Jvm.Free.Hsc.floorOf x) :: r) σ v τ) : fx_E z mi d pc al (.double x :: r) σ v τ := by
  subst hp
  have ho : id_cl 4 pc al (.double x :: r) = some (pc + 3, al, .double (Jvm.Free.Hsc.floorOf x) :: r, none) := by
    show (if (id_n6 x && id_c8 r) = true then _ else none) = _
    rw [if_pos (fx_c8 hn hr)]
    rfl
  exact fx_p hc rfl (fun h => (fx_jd (z := z) hq ho).1) (fun h => (fx_jd hq ho).2) E
end
end
section
/-! FACTS of the world that the methods ask for -/
theorem ks_1023 : (Int16.ofInt (1023)).toInt32 = (1023 : Int32) := by decide +kernel
theorem kb_52 : (Int8.ofInt (52)).toInt32 = (52 : Int32) := by decide +kernel
theorem kb_127 : (Int8.ofInt (127)).toInt32 = (127 : Int32) := by decide +kernel
theorem kb_23 : (Int8.ofInt (23)).toInt32 = (23 : Int32) := by decide +kernel
theorem kc_0 : Int32.ofInt (0) = (0 : Int32) := by decide +kernel
theorem kc_1 : Int32.ofInt (1) = (1 : Int32) := by decide +kernel
theorem kc_m1 : Int32.ofInt (-1) = (-1 : Int32) := by decide +kernel
theorem kl_1 : Int64.ofNat ((1 : Fin 2) : Nat) = (1 : Int64) := by decide +kernel
theorem fo_60 : fx_oc 60 0 = true := by decide +kernel
theorem fo_14 : fx_oc 14 8 = true := by decide +kernel
theorem fr_a60_0 : fx_rf 60 0 = 61 := by decide +kernel
theorem kb_63 : (Int8.ofInt (63)).toInt32 = (63 : Int32) := by decide +kernel
theorem kb_97 : (Int8.ofInt (97)).toInt32 = (97 : Int32) := by decide +kernel
theorem kb_104 : (Int8.ofInt (104)).toInt32 = (104 : Int32) := by decide +kernel
theorem kb_8 : (Int8.ofInt (8)).toInt32 = (8 : Int32) := by decide +kernel
theorem kb_48 : (Int8.ofInt (48)).toInt32 = (48 : Int32) := by decide +kernel
theorem kb_57 : (Int8.ofInt (57)).toInt32 = (57 : Int32) := by decide +kernel
theorem fo_62 : fx_oc 62 1 = true := by decide +kernel
theorem fr_a62_4 : fx_rf 62 4 = 65 := by decide +kernel
theorem fr_a62_7 : fx_rf 62 7 = 68 := by decide +kernel
theorem fr_a62_5 : fx_rf 62 5 = 66 := by decide +kernel
theorem kc_4 : Int32.ofInt (4) = (4 : Int32) := by decide +kernel
theorem kl_0 : Int64.ofNat ((0 : Fin 2) : Nat) = (0 : Int64) := by decide +kernel
theorem fr_a62_3 : fx_rf 62 3 = 64 := by decide +kernel
theorem fr_a62_6 : fx_rf 62 6 = 67 := by decide +kernel
theorem fr_a62_0 : fx_rf 62 0 = 63 := by decide +kernel
theorem kc_3 : Int32.ofInt (3) = (3 : Int32) := by decide +kernel
theorem kb_9 : (Int8.ofInt (9)).toInt32 = (9 : Int32) := by decide +kernel
theorem fr_2_12 {k : Nat} (h : fx_oc k 2 = true) : fx_rf k 12 = k + 39 := by
  have q : (List.range fx_N).all (fun k => !(fx_oc k 2) || Nat.beq (fx_rf k 12) (k + 39)) = true := by decide +kernel
  have q2 := List.all_eq_true.mp q k (List.mem_range.mpr (fx_oc_s h).1)
  rw [h] at q2
  exact Nat.eq_of_beq_eq_true q2
theorem fg_2_12 {k : Nat} (h : fx_oc k 2 = true) : fx_oc (k + 39) 7 = true := by
  have q : (List.range fx_N).all (fun k => !(fx_oc k 2) || fx_oc (k + 39) 7) = true := by decide +kernel
  have q2 := List.all_eq_true.mp q k (List.mem_range.mpr (fx_oc_s h).1)
  rw [h] at q2
  exact q2
theorem fr_2_2 {k : Nat} (h : fx_oc k 2 = true) : fx_rf k 2 = k + 3 := by
  have q : (List.range fx_N).all (fun k => !(fx_oc k 2) || Nat.beq (fx_rf k 2) (k + 3)) = true := by decide +kernel
  have q2 := List.all_eq_true.mp q k (List.mem_range.mpr (fx_oc_s h).1)
  rw [h] at q2
  exact Nat.eq_of_beq_eq_true q2
theorem fg_2_2 {k : Nat} (h : fx_oc k 2 = true) : fx_oc (k + 3) 7 = true := by
  have q : (List.range fx_N).all (fun k => !(fx_oc k 2) || fx_oc (k + 3) 7) = true := by decide +kernel
  have q2 := List.all_eq_true.mp q k (List.mem_range.mpr (fx_oc_s h).1)
  rw [h] at q2
  exact q2
theorem fr_2_3 {k : Nat} (h : fx_oc k 2 = true) : fx_rf k 3 = k + 12 := by
  have q : (List.range fx_N).all (fun k => !(fx_oc k 2) || Nat.beq (fx_rf k 3) (k + 12)) = true := by decide +kernel
  have q2 := List.all_eq_true.mp q k (List.mem_range.mpr (fx_oc_s h).1)
  rw [h] at q2
  exact Nat.eq_of_beq_eq_true q2
theorem fg_2_3 {k : Nat} (h : fx_oc k 2 = true) : fx_oc (k + 12) 7 = true := by
  have q : (List.range fx_N).all (fun k => !(fx_oc k 2) || fx_oc (k + 12) 7) = true := by decide +kernel
  have q2 := List.all_eq_true.mp q k (List.mem_range.mpr (fx_oc_s h).1)
  rw [h] at q2
  exact q2
theorem fr_2_4 {k : Nat} (h : fx_oc k 2 = true) : fx_rf k 4 = k + 21 := by
  have q : (List.range fx_N).all (fun k => !(fx_oc k 2) || Nat.beq (fx_rf k 4) (k + 21)) = true := by decide +kernel
  have q2 := List.all_eq_true.mp q k (List.mem_range.mpr (fx_oc_s h).1)
  rw [h] at q2
  exact Nat.eq_of_beq_eq_true q2
theorem fg_2_4 {k : Nat} (h : fx_oc k 2 = true) : fx_oc (k + 21) 7 = true := by
  have q : (List.range fx_N).all (fun k => !(fx_oc k 2) || fx_oc (k + 21) 7) = true := by decide +kernel
  have q2 := List.all_eq_true.mp q k (List.mem_range.mpr (fx_oc_s h).1)
  rw [h] at q2
  exact q2
theorem fr_2_5 {k : Nat} (h : fx_oc k 2 = true) : fx_rf k 5 = k + 30 := by
  have q : (List.range fx_N).all (fun k => !(fx_oc k 2) || Nat.beq (fx_rf k 5) (k + 30)) = true := by decide +kernel
  have q2 := List.all_eq_true.mp q k (List.mem_range.mpr (fx_oc_s h).1)
  rw [h] at q2
  exact Nat.eq_of_beq_eq_true q2
theorem fg_2_5 {k : Nat} (h : fx_oc k 2 = true) : fx_oc (k + 30) 7 = true := by
  have q : (List.range fx_N).all (fun k => !(fx_oc k 2) || fx_oc (k + 30) 7) = true := by decide +kernel
  have q2 := List.all_eq_true.mp q k (List.mem_range.mpr (fx_oc_s h).1)
  rw [h] at q2
  exact q2
theorem fr_2_10 {k : Nat} (h : fx_oc k 2 = true) : fx_rf k 10 = 1 := by
  have q : (List.range fx_N).all (fun k => !(fx_oc k 2) || Nat.beq (fx_rf k 10) 1) = true := by decide +kernel
  have q2 := List.all_eq_true.mp q k (List.mem_range.mpr (fx_oc_s h).1)
  rw [h] at q2
  exact Nat.eq_of_beq_eq_true q2
theorem fo_1 : fx_oc 1 6 = true := by decide +kernel
theorem fo_16 : fx_oc 16 3 = true := by decide +kernel
theorem fr_a16_0 : fx_rf 16 0 = 17 := by decide +kernel
theorem fa_17 {i : Int32} {g : Nat} (h : fx_ldr 5 17 i = some g) : fx_oc g 6 = true := by
  obtain ⟨h1, h2⟩ | ⟨h1, h2⟩ := fx_if h
  · cases h2
    have q : (List.range (fx_sh 17).2).all (fun j => fx_oc (fx_rf 17 j) 6) = true := by decide +kernel
    exact List.all_eq_true.mp q _ (List.mem_range.mpr (fx_ok_s h1).2.2.2)
  · cases h2
theorem fo_58 : fx_oc 58 4 = true := by decide +kernel
theorem kb_12 : (Int8.ofInt (12)).toInt32 = (12 : Int32) := by decide +kernel
theorem kc_2 : Int32.ofInt (2) = (2 : Int32) := by decide +kernel
theorem kb_46 : (Int8.ofInt (46)).toInt32 = (46 : Int32) := by decide +kernel
theorem kb_51 : (Int8.ofInt (51)).toInt32 = (51 : Int32) := by decide +kernel
theorem kb_47 : (Int8.ofInt (47)).toInt32 = (47 : Int32) := by decide +kernel
theorem kb_96 : (Int8.ofInt (96)).toInt32 = (96 : Int32) := by decide +kernel
theorem fr_a58_0 : fx_rf 58 0 = 59 := by decide +kernel
theorem fo_6 : fx_oc 6 5 = true := by decide +kernel
theorem kb_17 : (Int8.ofInt (17)).toInt32 = (17 : Int32) := by decide +kernel
theorem fr_a6_4 : fx_rf 6 4 = 11 := by decide +kernel
theorem fr_a6_2 : fx_rf 6 2 = 9 := by decide +kernel
theorem fr_a6_0 : fx_rf 6 0 = 7 := by decide +kernel
theorem fr_a6_1 : fx_rf 6 1 = 8 := by decide +kernel
theorem fr_a6_5 : fx_rf 6 5 = 12 := by decide +kernel
theorem kb_18 : (Int8.ofInt (18)).toInt32 = (18 : Int32) := by decide +kernel
theorem fr_a6_6 : fx_rf 6 6 = 13 := by decide +kernel
theorem fr_a6_3 : fx_rf 6 3 = 10 := by decide +kernel
theorem fr_6_0 {k : Nat} (h : fx_oc k 6 = true) : fx_rf k 0 = k + 1 := by
  have q : (List.range fx_N).all (fun k => !(fx_oc k 6) || Nat.beq (fx_rf k 0) (k + 1)) = true := by decide +kernel
  have q2 := List.all_eq_true.mp q k (List.mem_range.mpr (fx_oc_s h).1)
  rw [h] at q2
  exact Nat.eq_of_beq_eq_true q2
theorem ks_288 : (Int16.ofInt (288)).toInt32 = (288 : Int32) := by decide +kernel
theorem fr_6_1 {k : Nat} (h : fx_oc k 6 = true) : fx_rf k 1 = k + 2 := by
  have q : (List.range fx_N).all (fun k => !(fx_oc k 6) || Nat.beq (fx_rf k 1) (k + 2)) = true := by decide +kernel
  have q2 := List.all_eq_true.mp q k (List.mem_range.mpr (fx_oc_s h).1)
  rw [h] at q2
  exact Nat.eq_of_beq_eq_true q2
theorem kb_27 : (Int8.ofInt (27)).toInt32 = (27 : Int32) := by decide +kernel
theorem fr_6_2 {k : Nat} (h : fx_oc k 6 = true) : fx_rf k 2 = k + 3 := by
  have q : (List.range fx_N).all (fun k => !(fx_oc k 6) || Nat.beq (fx_rf k 2) (k + 3)) = true := by decide +kernel
  have q2 := List.all_eq_true.mp q k (List.mem_range.mpr (fx_oc_s h).1)
  rw [h] at q2
  exact Nat.eq_of_beq_eq_true q2
theorem fr_6_3 {k : Nat} (h : fx_oc k 6 = true) : fx_rf k 3 = k + 4 := by
  have q : (List.range fx_N).all (fun k => !(fx_oc k 6) || Nat.beq (fx_rf k 3) (k + 4)) = true := by decide +kernel
  have q2 := List.all_eq_true.mp q k (List.mem_range.mpr (fx_oc_s h).1)
  rw [h] at q2
  exact Nat.eq_of_beq_eq_true q2
theorem kb_7 : (Int8.ofInt (7)).toInt32 = (7 : Int32) := by decide +kernel
theorem fr_7_0 {k : Nat} (h : fx_oc k 7 = true) : fx_rf k 0 = k + 1 := by
  have q : (List.range fx_N).all (fun k => !(fx_oc k 7) || Nat.beq (fx_rf k 0) (k + 1)) = true := by decide +kernel
  have q2 := List.all_eq_true.mp q k (List.mem_range.mpr (fx_oc_s h).1)
  rw [h] at q2
  exact Nat.eq_of_beq_eq_true q2
theorem fr_7_3 {k : Nat} (h : fx_oc k 7 = true) : fx_rf k 3 = k + 4 := by
  have q : (List.range fx_N).all (fun k => !(fx_oc k 7) || Nat.beq (fx_rf k 3) (k + 4)) = true := by decide +kernel
  have q2 := List.all_eq_true.mp q k (List.mem_range.mpr (fx_oc_s h).1)
  rw [h] at q2
  exact Nat.eq_of_beq_eq_true q2
theorem fr_7_4 {k : Nat} (h : fx_oc k 7 = true) : fx_rf k 4 = k + 5 := by
  have q : (List.range fx_N).all (fun k => !(fx_oc k 7) || Nat.beq (fx_rf k 4) (k + 5)) = true := by decide +kernel
  have q2 := List.all_eq_true.mp q k (List.mem_range.mpr (fx_oc_s h).1)
  rw [h] at q2
  exact Nat.eq_of_beq_eq_true q2
theorem fr_7_5 {k : Nat} (h : fx_oc k 7 = true) : fx_rf k 5 = k + 6 := by
  have q : (List.range fx_N).all (fun k => !(fx_oc k 7) || Nat.beq (fx_rf k 5) (k + 6)) = true := by decide +kernel
  have q2 := List.all_eq_true.mp q k (List.mem_range.mpr (fx_oc_s h).1)
  rw [h] at q2
  exact Nat.eq_of_beq_eq_true q2
theorem fr_7_6 {k : Nat} (h : fx_oc k 7 = true) : fx_rf k 6 = k + 7 := by
  have q : (List.range fx_N).all (fun k => !(fx_oc k 7) || Nat.beq (fx_rf k 6) (k + 7)) = true := by decide +kernel
  have q2 := List.all_eq_true.mp q k (List.mem_range.mpr (fx_oc_s h).1)
  rw [h] at q2
  exact Nat.eq_of_beq_eq_true q2
theorem fr_7_7 {k : Nat} (h : fx_oc k 7 = true) : fx_rf k 7 = k + 8 := by
  have q : (List.range fx_N).all (fun k => !(fx_oc k 7) || Nat.beq (fx_rf k 7) (k + 8)) = true := by decide +kernel
  have q2 := List.all_eq_true.mp q k (List.mem_range.mpr (fx_oc_s h).1)
  rw [h] at q2
  exact Nat.eq_of_beq_eq_true q2
theorem fr_7_1 {k : Nat} (h : fx_oc k 7 = true) : fx_rf k 1 = k + 2 := by
  have q : (List.range fx_N).all (fun k => !(fx_oc k 7) || Nat.beq (fx_rf k 1) (k + 2)) = true := by decide +kernel
  have q2 := List.all_eq_true.mp q k (List.mem_range.mpr (fx_oc_s h).1)
  rw [h] at q2
  exact Nat.eq_of_beq_eq_true q2
theorem kb_24 : (Int8.ofInt (24)).toInt32 = (24 : Int32) := by decide +kernel
theorem ks_200 : (Int16.ofInt (200)).toInt32 = (200 : Int32) := by decide +kernel
theorem fr_a14_0 : fx_rf 14 0 = 15 := by decide +kernel
theorem ks_255 : (Int16.ofInt (255)).toInt32 = (255 : Int32) := by decide +kernel
theorem kc_m8 : Int32.ofInt (-8) = (-8 : Int32) := by decide +kernel
theorem fo_0 : fx_oc 0 9 = true := by decide +kernel
theorem fr_a0_0 : fx_rf 0 0 = 14 := by decide +kernel
theorem kb_20 : (Int8.ofInt (20)).toInt32 = (20 : Int32) := by decide +kernel
theorem fr_a0_1 : fx_rf 0 1 = 1 := by decide +kernel
theorem fr_a0_3 : fx_rf 0 3 = 58 := by decide +kernel
theorem fr_a0_2 : fx_rf 0 2 = 16 := by decide +kernel
theorem fr_a0_6 : fx_rf 0 6 = 70 := by decide +kernel
theorem fa_70 {i : Int32} {g : Nat} (h : fx_ldr 4 70 i = some g) : fx_oc g 2 = true := by
  obtain ⟨h1, h2⟩ | ⟨h1, h2⟩ := fx_if h
  · cases h2
    have q : (List.range (fx_sh 70).2).all (fun j => fx_oc (fx_rf 70 j) 2) = true := by decide +kernel
    exact List.all_eq_true.mp q _ (List.mem_range.mpr (fx_ok_s h1).2.2.2)
  · cases h2
theorem fr_a0_5 : fx_rf 0 5 = 62 := by decide +kernel
theorem fr_a1_1 : fx_rf 1 1 = 3 := by decide +kernel
theorem fr_a0_7 : fx_rf 0 7 = 69 := by decide +kernel
theorem kb_100 : (Int8.ofInt (100)).toInt32 = (100 : Int32) := by decide +kernel
theorem fo_215 : fx_oc 215 10 = true := by decide +kernel
theorem ks_340 : (Int16.ofInt (340)).toInt32 = (340 : Int32) := by decide +kernel
theorem ks_2720 : (Int16.ofInt (2720)).toInt32 = (2720 : Int32) := by decide +kernel
theorem fr_a215_1 : fx_rf 215 1 = 217 := by decide +kernel
theorem fr_a215_0 : fx_rf 215 0 = 216 := by decide +kernel
theorem fr_a215_3 : fx_rf 215 3 = 218 := by decide +kernel
theorem fr_a215_7 : fx_rf 215 7 = 219 := by decide +kernel
theorem kb_m2 : (Int8.ofInt (-2)).toInt32 = (-2 : Int32) := by decide +kernel
theorem kb_61 : (Int8.ofInt (61)).toInt32 = (61 : Int32) := by decide +kernel
theorem ks_10000 : (Int16.ofInt (10000)).toInt32 = (10000 : Int32) := by decide +kernel
theorem kb_10 : (Int8.ofInt (10)).toInt32 = (10 : Int32) := by decide +kernel
theorem ks_9999 : (Int16.ofInt (9999)).toInt32 = (9999 : Int32) := by decide +kernel
theorem fr_a215_10 : fx_rf 215 10 = 220 := by decide +kernel
theorem kb_44 : (Int8.ofInt (44)).toInt32 = (44 : Int32) := by decide +kernel
theorem kc_5 : Int32.ofInt (5) = (5 : Int32) := by decide +kernel
theorem kb_32 : (Int8.ofInt (32)).toInt32 = (32 : Int32) := by decide +kernel
theorem kb_72 : (Int8.ofInt (72)).toInt32 = (72 : Int32) := by decide +kernel
theorem fr_a215_13 : fx_rf 215 13 = 222 := by decide +kernel
theorem fr_a215_15 : fx_rf 215 15 = 224 := by decide +kernel
theorem fr_a215_16 : fx_rf 215 16 = 225 := by decide +kernel
theorem fr_a215_14 : fx_rf 215 14 = 223 := by decide +kernel
theorem fr_a215_12 : fx_rf 215 12 = 221 := by decide +kernel
theorem fr_a215_20 : fx_rf 215 20 = 227 := by decide +kernel
theorem fr_a215_21 : fx_rf 215 21 = 228 := by decide +kernel
theorem fr_a215_26 : fx_rf 215 26 = 233 := by decide +kernel
theorem fr_a215_25 : fx_rf 215 25 = 232 := by decide +kernel
theorem fr_a215_28 : fx_rf 215 28 = 235 := by decide +kernel
theorem fr_a215_23 : fx_rf 215 23 = 230 := by decide +kernel
theorem fr_a215_22 : fx_rf 215 22 = 229 := by decide +kernel
theorem fr_a215_24 : fx_rf 215 24 = 231 := by decide +kernel
theorem fr_a215_19 : fx_rf 215 19 = 226 := by decide +kernel
theorem fr_a215_27 : fx_rf 215 27 = 234 := by decide +kernel
theorem fr_a215_31 : fx_rf 215 31 = 236 := by decide +kernel
theorem fr_a215_32 : fx_rf 215 32 = 237 := by decide +kernel
theorem fr_a215_35 : fx_rf 215 35 = 240 := by decide +kernel
theorem fr_a215_36 : fx_rf 215 36 = 241 := by decide +kernel
theorem fr_a215_37 : fx_rf 215 37 = 242 := by decide +kernel
theorem fr_a215_38 : fx_rf 215 38 = 243 := by decide +kernel
theorem kb_36 : (Int8.ofInt (36)).toInt32 = (36 : Int32) := by decide +kernel
theorem kc_16 : Int32.ofInt (16) = (16 : Int32) := by decide +kernel
theorem kb_16 : (Int8.ofInt (16)).toInt32 = (16 : Int32) := by decide +kernel
theorem ks_256 : (Int16.ofInt (256)).toInt32 = (256 : Int32) := by decide +kernel
theorem kc_8 : Int32.ofInt (8) = (8 : Int32) := by decide +kernel
theorem fr_7_2 {k : Nat} (h : fx_oc k 7 = true) : fx_rf k 2 = k + 3 := by
  have q : (List.range fx_N).all (fun k => !(fx_oc k 7) || Nat.beq (fx_rf k 2) (k + 3)) = true := by decide +kernel
  have q2 := List.all_eq_true.mp q k (List.mem_range.mpr (fx_oc_s h).1)
  rw [h] at q2
  exact Nat.eq_of_beq_eq_true q2
theorem fr_2_0 {k : Nat} (h : fx_oc k 2 = true) : fx_rf k 0 = k + 1 := by
  have q : (List.range fx_N).all (fun k => !(fx_oc k 2) || Nat.beq (fx_rf k 0) (k + 1)) = true := by decide +kernel
  have q2 := List.all_eq_true.mp q k (List.mem_range.mpr (fx_oc_s h).1)
  rw [h] at q2
  exact Nat.eq_of_beq_eq_true q2
theorem fr_2_1 {k : Nat} (h : fx_oc k 2 = true) : fx_rf k 1 = k + 2 := by
  have q : (List.range fx_N).all (fun k => !(fx_oc k 2) || Nat.beq (fx_rf k 1) (k + 2)) = true := by decide +kernel
  have q2 := List.all_eq_true.mp q k (List.mem_range.mpr (fx_oc_s h).1)
  rw [h] at q2
  exact Nat.eq_of_beq_eq_true q2
theorem fr_a0_4 : fx_rf 0 4 = 60 := by decide +kernel
theorem fr_a1_2 : fx_rf 1 2 = 4 := by decide +kernel
theorem fr_a1_3 : fx_rf 1 3 = 5 := by decide +kernel
theorem fr_2_11 {k : Nat} (h : fx_oc k 2 = true) : fx_rf k 11 = 6 := by
  have q : (List.range fx_N).all (fun k => !(fx_oc k 2) || Nat.beq (fx_rf k 11) 6) = true := by decide +kernel
  have q2 := List.all_eq_true.mp q k (List.mem_range.mpr (fx_oc_s h).1)
  rw [h] at q2
  exact Nat.eq_of_beq_eq_true q2
theorem fr_a1_0 : fx_rf 1 0 = 2 := by decide +kernel
theorem fr_a215_39 : fx_rf 215 39 = 244 := by decide +kernel
theorem fr_a215_33 : fx_rf 215 33 = 238 := by decide +kernel
theorem fr_a215_34 : fx_rf 215 34 = 239 := by decide +kernel
theorem fr_a215_46 : fx_rf 215 46 = 245 := by decide +kernel
theorem ks_148 : (Int16.ofInt (148)).toInt32 = (148 : Int32) := by decide +kernel
theorem kb_6 : (Int8.ofInt (6)).toInt32 = (6 : Int32) := by decide +kernel
theorem kb_31 : (Int8.ofInt (31)).toInt32 = (31 : Int32) := by decide +kernel
theorem kc_6 : Int32.ofInt (6) = (6 : Int32) := by decide +kernel
end
section
/-! ZoneShares$CountsText.slotOf(I)I -/
theorem mx_7 : iv_mx 7 = 1 := by decide +kernel
theorem rt_7 : iv_rt 7 = some .int := by decide +kernel
def fm_7 (x0 : Int32) (σ : fx_S) : Option (Int32 × fx_S) :=
  if ¬ x0 = (63 : Int32) then (
    if x0 < (97 : Int32) then (
      some ((-1 : Int32), σ)) else (
      if (104 : Int32) < x0 then (
        some ((-1 : Int32), σ)) else (
        some ((x0 - (97 : Int32)), σ)))) else (
    some ((8 : Int32), σ))
theorem fe_7 {d : Nat} (hd : 0 ≤ d) {x0 : Int32} {σ : fx_S} {q : Int32 × fx_S} (h : fm_7 x0 σ = some q) : fx_E none 7 d 0 [some (.int x0)] [] σ (some (.int q.1)) q.2 := by
  unfold fm_7 at h
  refine fs_iload_n (k := 0) (p := 1) (by decide +kernel) rfl rfl ?_
  refine fs_bipush (n := 63) (p := 3) (by decide +kernel) rfl kb_63 ?_
  by_cases c6 : ¬ x0 = (63 : Int32)
  · rw [if_pos c6] at h
    refine fs_icmp_ne_t (off := 6) (t := 9) (by decide +kernel) (by decide +kernel) c6 ?_
    refine fs_iload_n (k := 0) (p := 10) (by decide +kernel) rfl rfl ?_
    refine fs_bipush (n := 97) (p := 12) (by decide +kernel) rfl kb_97 ?_
    by_cases c7 : x0 < (97 : Int32)
    · rw [if_pos c7] at h
      refine fs_icmp_lt_t (off := 16) (t := 28) (by decide +kernel) (by decide +kernel) c7 ?_
      refine fs_iconst (n := -1) (p := 29) (by decide +kernel) rfl kc_m1 ?_
      have h := Option.some.inj h
      subst h
      exact fs_iret (by decide +kernel) rt_7
    · rw [if_neg c7] at h
      refine fs_icmp_lt_f (off := 16) (t := 28) (p := 15) (by decide +kernel) (by decide +kernel) rfl c7 ?_
      refine fs_iload_n (k := 0) (p := 16) (by decide +kernel) rfl rfl ?_
      refine fs_bipush (n := 104) (p := 18) (by decide +kernel) rfl kb_104 ?_
      by_cases c8 : (104 : Int32) < x0
      · rw [if_pos c8] at h
        refine fs_icmp_gt_t (off := 10) (t := 28) (by decide +kernel) (by decide +kernel) c8 ?_
        refine fs_iconst (n := -1) (p := 29) (by decide +kernel) rfl kc_m1 ?_
        have h := Option.some.inj h
        subst h
        exact fs_iret (by decide +kernel) rt_7
      · rw [if_neg c8] at h
        refine fs_icmp_gt_f (off := 10) (t := 28) (p := 21) (by decide +kernel) (by decide +kernel) rfl c8 ?_
        refine fs_iload_n (k := 0) (p := 22) (by decide +kernel) rfl rfl ?_
        refine fs_bipush (n := 97) (p := 24) (by decide +kernel) rfl kb_97 ?_
        refine fs_isub (p := 25) (by decide +kernel) rfl ?_
        refine fs_goto (off := 4) (p := 29) (by decide +kernel) (by decide +kernel) ?_
        have h := Option.some.inj h
        subst h
        exact fs_iret (by decide +kernel) rt_7
  · rw [if_neg c6] at h
    refine fs_icmp_ne_f (off := 6) (t := 9) (p := 6) (by decide +kernel) (by decide +kernel) rfl c6 ?_
    refine fs_bipush (n := 8) (p := 8) (by decide +kernel) rfl kb_8 ?_
    have h := Option.some.inj h
    subst h
    exact fs_iret (by decide +kernel) rt_7

/-! ZoneShares$CountsText.isDigit(I)Z -/
theorem mx_8 : iv_mx 8 = 1 := by decide +kernel
theorem rt_8 : iv_rt 8 = some .boolean := by decide +kernel
def fm_8 (x0 : Int32) (σ : fx_S) : Option (Bool × fx_S) :=
  if x0 < (48 : Int32) then (
    some (false, σ)) else (
    if (57 : Int32) < x0 then (
      some (false, σ)) else (
      some (true, σ)))
theorem fe_8 {d : Nat} (hd : 0 ≤ d) {x0 : Int32} {σ : fx_S} {q : Bool × fx_S} (h : fm_8 x0 σ = some q) : fx_E none 8 d 0 [some (.int x0)] [] σ (some (.int (fx_b q.1))) q.2 := by
  unfold fm_8 at h
  refine fs_iload_n (k := 0) (p := 1) (by decide +kernel) rfl rfl ?_
  refine fs_bipush (n := 48) (p := 3) (by decide +kernel) rfl kb_48 ?_
  by_cases c5 : x0 < (48 : Int32)
  · rw [if_pos c5] at h
    refine fs_icmp_lt_t (off := 13) (t := 16) (by decide +kernel) (by decide +kernel) c5 ?_
    refine fs_iconst (n := 0) (p := 17) (by decide +kernel) rfl kc_0 ?_
    have h := Option.some.inj h
    subst h
    exact fs_zret (b := false) (by decide +kernel) rt_8
  · rw [if_neg c5] at h
    refine fs_icmp_lt_f (off := 13) (t := 16) (p := 6) (by decide +kernel) (by decide +kernel) rfl c5 ?_
    refine fs_iload_n (k := 0) (p := 7) (by decide +kernel) rfl rfl ?_
    refine fs_bipush (n := 57) (p := 9) (by decide +kernel) rfl kb_57 ?_
    by_cases c6 : (57 : Int32) < x0
    · rw [if_pos c6] at h
      refine fs_icmp_gt_t (off := 7) (t := 16) (by decide +kernel) (by decide +kernel) c6 ?_
      refine fs_iconst (n := 0) (p := 17) (by decide +kernel) rfl kc_0 ?_
      have h := Option.some.inj h
      subst h
      exact fs_zret (b := false) (by decide +kernel) rt_8
    · rw [if_neg c6] at h
      refine fs_icmp_gt_f (off := 7) (t := 16) (p := 12) (by decide +kernel) (by decide +kernel) rfl c6 ?_
      refine fs_iconst (n := 1) (p := 13) (by decide +kernel) rfl kc_1 ?_
      refine fs_goto (off := 4) (p := 17) (by decide +kernel) (by decide +kernel) ?_
      have h := Option.some.inj h
      subst h
      exact fs_zret (b := true) (by decide +kernel) rt_8

/-! ZoneShares$Fitter.addWeight(II)V -/
theorem mx_13 : iv_mx 13 = 4 := by decide +kernel
theorem rt_13 : iv_rt 13 = none := by decide +kernel
def fm_13_2 : Nat → Int32 → Int32 → Int32 → fx_S → Option (fx_S)
  | 0, _, _, _, _ => none
  | n + 1, x1, x2, x3, σ =>
    if (σ.1 62 2) ≤ x3 then (
      (fx_ld σ 66 x1).bind fun v4 =>
      some (fx_w2 σ 62 8 ((σ.2 62 8) + ((x2 * v4)).toInt64))) else (
      (fx_ld σ 68 x3).bind fun v8 =>
      (fx_ld σ 65 ((x3 * (4 : Int32)) + x1)).bind fun v11 =>
      (fx_st σ 68 x3 (v8 + (x2 * v11))).bind fun t14 =>
      fm_13_2 n x1 x2 (x3 + (1 : Int32)) t14)
theorem fe_13_2 {d : Nat} (hd : 0 ≤ d) : ∀ (n : Nat) (x1 : Int32) (x2 : Int32) (x3 : Int32) (σ : fx_S) (q : fx_S), fm_13_2 n x1 x2 x3 σ = some q → fx_E none 13 d 2 [some (.ref 62), some (.int x1), some (.int x2), some (.int x3)] [] σ none q := by
  intro n
  induction n with
  | zero =>
    intro x1 x2 x3 σ q  h
    rw [fm_13_2] at h
    exact fx_no h
  | succ n ih =>
    intro x1 x2 x3 σ q  h
    rw [fm_13_2] at h
    refine fs_iload_n (k := 3) (p := 3) (by decide +kernel) rfl rfl ?_
    refine fs_aload_n (k := 0) (p := 4) (by decide +kernel) rfl rfl ?_
    refine fs_gfi (idx := 36) (ci := 1) (j := 2) (p := 7) (by decide +kernel) rfl (by decide +kernel) fo_62 ?_
    by_cases c3 : (σ.1 62 2) ≤ x3
    · rw [if_pos c3] at h
      refine fs_icmp_ge_t (off := 30) (t := 37) (by decide +kernel) (by decide +kernel) c3 ?_
      refine fs_aload_n (k := 0) (p := 38) (by decide +kernel) rfl rfl ?_
      refine fs_dup (p := 39) (by decide +kernel) rfl rfl ?_
      refine fs_gfl (idx := 70) (ci := 1) (j := 8) (p := 42) (by decide +kernel) rfl (by decide +kernel) fo_62 ?_
      refine fs_iload_n (k := 2) (p := 43) (by decide +kernel) rfl rfl ?_
      refine fs_aload_n (k := 0) (p := 44) (by decide +kernel) rfl rfl ?_
      refine fs_gfr (idx := 21) (ci := 1) (j := 5) (p := 47) (by decide +kernel) rfl (by decide +kernel) fo_62 (fr_a62_5) ?_
      refine fs_iload_n (k := 1) (p := 48) (by decide +kernel) rfl rfl ?_
      obtain ⟨v4, w5, h⟩ := fx_bd h
      refine fs_iaload (p := 49) (by decide +kernel) rfl w5 ?_
      refine fs_imul (p := 50) (by decide +kernel) rfl ?_
      refine fs_i2l (p := 51) (by decide +kernel) rfl ?_
      refine fs_ladd (p := 52) (by decide +kernel) rfl ?_
      refine fs_pfl (idx := 70) (ci := 1) (j := 8) (p := 55) (by decide +kernel) rfl (by decide +kernel) (by decide +kernel) fo_62 ?_
      have h := Option.some.inj h
      subst h
      exact fs_ret (by decide +kernel) rt_13
    · rw [if_neg c3] at h
      refine fs_icmp_ge_f (off := 30) (t := 37) (p := 10) (by decide +kernel) (by decide +kernel) rfl c3 ?_
      refine fs_aload_n (k := 0) (p := 11) (by decide +kernel) rfl rfl ?_
      refine fs_gfr (idx := 27) (ci := 1) (j := 7) (p := 14) (by decide +kernel) rfl (by decide +kernel) fo_62 (fr_a62_7) ?_
      refine fs_iload_n (k := 3) (p := 15) (by decide +kernel) rfl rfl ?_
      refine fs_dup2 (p := 16) (by decide +kernel) rfl rfl rfl ?_
      obtain ⟨v8, w9, h⟩ := fx_bd h
      refine fs_iaload (p := 17) (by decide +kernel) rfl w9 ?_
      refine fs_iload_n (k := 2) (p := 18) (by decide +kernel) rfl rfl ?_
      refine fs_aload_n (k := 0) (p := 19) (by decide +kernel) rfl rfl ?_
      refine fs_gfr (idx := 18) (ci := 1) (j := 4) (p := 22) (by decide +kernel) rfl (by decide +kernel) fo_62 (fr_a62_4) ?_
      refine fs_iload_n (k := 3) (p := 23) (by decide +kernel) rfl rfl ?_
      refine fs_iconst (n := 4) (p := 24) (by decide +kernel) rfl kc_4 ?_
      refine fs_imul (p := 25) (by decide +kernel) rfl ?_
      refine fs_iload_n (k := 1) (p := 26) (by decide +kernel) rfl rfl ?_
      refine fs_iadd (p := 27) (by decide +kernel) rfl ?_
      obtain ⟨v11, w12, h⟩ := fx_bd h
      refine fs_iaload (p := 28) (by decide +kernel) rfl w12 ?_
      refine fs_imul (p := 29) (by decide +kernel) rfl ?_
      refine fs_iadd (p := 30) (by decide +kernel) rfl ?_
      obtain ⟨t14, w15, h⟩ := fx_bd h
      refine fs_iastore (p := 31) (by decide +kernel) rfl w15 ?_
      refine fs_iinc (k := 3) (n := 1) (p := 34) (M := 4) (al' := [some (.ref 62), some (.int x1), some (.int x2), some (.int (x3 + (1 : Int32)))]) (by decide +kernel) rfl kc_1 mx_13 rfl rfl rfl ?_
      refine fs_goto (off := -32) (p := 2) (by decide +kernel) (by decide +kernel) ?_
      exact ih _ _ _ _ _ h
def fm_13 (x1 : Int32) (x2 : Int32) (σ : fx_S) : Option (fx_S) :=
  fm_13_2 100000 x1 x2 (0 : Int32) σ
theorem fe_13 {d : Nat} (hd : 0 ≤ d) {x1 : Int32} {x2 : Int32} {σ : fx_S} {q : fx_S} (h : fm_13 x1 x2 σ = some q) : fx_E none 13 d 0 [some (.ref 62), some (.int x1), some (.int x2), none] [] σ none q := by
  unfold fm_13 at h
  refine fs_iconst (n := 0) (p := 1) (by decide +kernel) rfl kc_0 ?_
  refine fs_istore_n (k := 3) (p := 2) (M := 4) (al' := [some (.ref 62), some (.int x1), some (.int x2), some (.int (0 : Int32))]) (by decide +kernel) rfl mx_13 rfl rfl ?_
  exact fe_13_2 hd 100000 _ _ _ _ _ h

/-! ZoneShares$Fitter.missed()J -/
theorem mx_14 : iv_mx 14 = 4 := by decide +kernel
theorem rt_14 : iv_rt 14 = some .long := by decide +kernel
def fm_14_4 : Nat → Int64 → Int32 → fx_S → Option (Int64 × fx_S)
  | 0, _, _, _ => none
  | n + 1, x1, x3, σ =>
    if (σ.1 62 2) ≤ x3 then (
      some (x1, σ)) else (
      (fx_ld σ 64 x3).bind fun v4 =>
      (fx_ld σ 68 x3).bind fun v8 =>
      fm_14_4 n (x1 + (if 0 < (((v4).toInt64 * (σ.2 62 8)) - ((σ.2 62 1) * (v8).toInt64)) then (((v4).toInt64 * (σ.2 62 8)) - ((σ.2 62 1) * (v8).toInt64)) else -(((v4).toInt64 * (σ.2 62 8)) - ((σ.2 62 1) * (v8).toInt64)))) (x3 + (1 : Int32)) σ)
theorem fe_14_4 {d : Nat} (hd : 0 ≤ d) : ∀ (n : Nat) (x1 : Int64) (x3 : Int32) (σ : fx_S) (q : Int64 × fx_S), fm_14_4 n x1 x3 σ = some q → fx_E none 14 d 4 [some (.ref 62), some (.long x1), none, some (.int x3)] [] σ (some (.long q.1)) q.2 := by
  intro n
  induction n with
  | zero =>
    intro x1 x3 σ q  h
    rw [fm_14_4] at h
    exact fx_no h
  | succ n ih =>
    intro x1 x3 σ q  h
    rw [fm_14_4] at h
    refine fs_iload_n (k := 3) (p := 5) (by decide +kernel) rfl rfl ?_
    refine fs_aload_n (k := 0) (p := 6) (by decide +kernel) rfl rfl ?_
    refine fs_gfi (idx := 36) (ci := 1) (j := 2) (p := 9) (by decide +kernel) rfl (by decide +kernel) fo_62 ?_
    by_cases c3 : (σ.1 62 2) ≤ x3
    · rw [if_pos c3] at h
      refine fs_icmp_ge_t (off := 40) (t := 49) (by decide +kernel) (by decide +kernel) c3 ?_
      refine fs_lload_n (k := 1) (p := 50) (by decide +kernel) rfl rfl ?_
      have h := Option.some.inj h
      subst h
      exact fs_lret (by decide +kernel) rt_14
    · rw [if_neg c3] at h
      refine fs_icmp_ge_f (off := 40) (t := 49) (p := 12) (by decide +kernel) (by decide +kernel) rfl c3 ?_
      refine fs_lload_n (k := 1) (p := 13) (by decide +kernel) rfl rfl ?_
      refine fs_aload_n (k := 0) (p := 14) (by decide +kernel) rfl rfl ?_
      refine fs_gfr (idx := 15) (ci := 1) (j := 3) (p := 17) (by decide +kernel) rfl (by decide +kernel) fo_62 (fr_a62_3) ?_
      refine fs_iload_n (k := 3) (p := 18) (by decide +kernel) rfl rfl ?_
      obtain ⟨v4, w5, h⟩ := fx_bd h
      refine fs_iaload (p := 19) (by decide +kernel) rfl w5 ?_
      refine fs_i2l (p := 20) (by decide +kernel) rfl ?_
      refine fs_aload_n (k := 0) (p := 21) (by decide +kernel) rfl rfl ?_
      refine fs_gfl (idx := 70) (ci := 1) (j := 8) (p := 24) (by decide +kernel) rfl (by decide +kernel) fo_62 ?_
      refine fs_lmul (p := 25) (by decide +kernel) rfl ?_
      refine fs_aload_n (k := 0) (p := 26) (by decide +kernel) rfl rfl ?_
      refine fs_gfl (idx := 40) (ci := 1) (j := 1) (p := 29) (by decide +kernel) rfl (by decide +kernel) fo_62 ?_
      refine fs_aload_n (k := 0) (p := 30) (by decide +kernel) rfl rfl ?_
      refine fs_gfr (idx := 27) (ci := 1) (j := 7) (p := 33) (by decide +kernel) rfl (by decide +kernel) fo_62 (fr_a62_7) ?_
      refine fs_iload_n (k := 3) (p := 34) (by decide +kernel) rfl rfl ?_
      obtain ⟨v8, w9, h⟩ := fx_bd h
      refine fs_iaload (p := 35) (by decide +kernel) rfl w9 ?_
      refine fs_i2l (p := 36) (by decide +kernel) rfl ?_
      refine fs_lmul (p := 37) (by decide +kernel) rfl ?_
      refine fs_lsub (p := 38) (by decide +kernel) rfl ?_
      refine fs_abl (idx := 77) (p := 41) (by decide +kernel) rfl (by decide +kernel) rfl ?_
      refine fs_ladd (p := 42) (by decide +kernel) rfl ?_
      refine fs_lstore_n (k := 1) (p := 43) (M := 4) (al' := [some (.ref 62), some (.long (x1 + (if 0 < (((v4).toInt64 * (σ.2 62 8)) - ((σ.2 62 1) * (v8).toInt64)) then (((v4).toInt64 * (σ.2 62 8)) - ((σ.2 62 1) * (v8).toInt64)) else -(((v4).toInt64 * (σ.2 62 8)) - ((σ.2 62 1) * (v8).toInt64))))), none, some (.int x3)]) (by decide +kernel) rfl mx_14 rfl rfl ?_
      refine fs_iinc (k := 3) (n := 1) (p := 46) (M := 4) (al' := [some (.ref 62), some (.long (x1 + (if 0 < (((v4).toInt64 * (σ.2 62 8)) - ((σ.2 62 1) * (v8).toInt64)) then (((v4).toInt64 * (σ.2 62 8)) - ((σ.2 62 1) * (v8).toInt64)) else -(((v4).toInt64 * (σ.2 62 8)) - ((σ.2 62 1) * (v8).toInt64))))), none, some (.int (x3 + (1 : Int32)))]) (by decide +kernel) rfl kc_1 mx_14 rfl rfl rfl ?_
      refine fs_goto (off := -42) (p := 4) (by decide +kernel) (by decide +kernel) ?_
      exact ih _ _ _ _ h
def fm_14 (σ : fx_S) : Option (Int64 × fx_S) :=
  fm_14_4 100000 (0 : Int64) (0 : Int32) σ
theorem fe_14 {d : Nat} (hd : 0 ≤ d) {σ : fx_S} {q : Int64 × fx_S} (h : fm_14 σ = some q) : fx_E none 14 d 0 [some (.ref 62), none, none, none] [] σ (some (.long q.1)) q.2 := by
  unfold fm_14 at h
  refine fs_lconst (n := 0) (p := 1) (by decide +kernel) rfl kl_0 ?_
  refine fs_lstore_n (k := 1) (p := 2) (M := 4) (al' := [some (.ref 62), some (.long (0 : Int64)), none, none]) (by decide +kernel) rfl mx_14 rfl rfl ?_
  refine fs_iconst (n := 0) (p := 3) (by decide +kernel) rfl kc_0 ?_
  refine fs_istore_n (k := 3) (p := 4) (M := 4) (al' := [some (.ref 62), some (.long (0 : Int64)), none, some (.int (0 : Int32))]) (by decide +kernel) rfl mx_14 rfl rfl ?_
  exact fe_14_4 hd 100000 _ _ _ _ h

/-! ZoneShares$Fitter.tryRow()V -/
theorem mx_16 : iv_mx 16 = 3 := by decide +kernel
theorem rt_16 : iv_rt 16 = none := by decide +kernel
def fm_16_33 (x1 : Int64) (σ : fx_S) : Option (fx_S) :=
  (fx_cpy (fx_w2 (fx_w2 σ 62 9 x1) 62 10 ((fx_w2 σ 62 9 x1).2 62 8)) 67 (0 : Int32) 63 (0 : Int32) (4 : Int32)).bind fun t1 =>
  some t1
theorem fe_16_33 {d : Nat} (hd : 1 ≤ d) (x1 : Int64) (σ : fx_S) (q : fx_S) (h : fm_16_33  x1 σ = some q) : fx_E none 16 d 33 [some (.ref 62), some (.long x1), none] [] σ none q := by
  unfold fm_16_33 at h
  refine fs_aload_n (k := 0) (p := 34) (by decide +kernel) rfl rfl ?_
  refine fs_lload_n (k := 1) (p := 35) (by decide +kernel) rfl rfl ?_
  refine fs_pfl (idx := 90) (ci := 1) (j := 9) (p := 38) (by decide +kernel) rfl (by decide +kernel) (by decide +kernel) fo_62 ?_
  refine fs_aload_n (k := 0) (p := 39) (by decide +kernel) rfl rfl ?_
  refine fs_aload_n (k := 0) (p := 40) (by decide +kernel) rfl rfl ?_
  refine fs_gfl (idx := 70) (ci := 1) (j := 8) (p := 43) (by decide +kernel) rfl (by decide +kernel) fo_62 ?_
  refine fs_pfl (idx := 87) (ci := 1) (j := 10) (p := 46) (by decide +kernel) rfl (by decide +kernel) (by decide +kernel) fo_62 ?_
  refine fs_aload_n (k := 0) (p := 47) (by decide +kernel) rfl rfl ?_
  refine fs_gfr (idx := 24) (ci := 1) (j := 6) (p := 50) (by decide +kernel) rfl (by decide +kernel) fo_62 (fr_a62_6) ?_
  refine fs_iconst (n := 0) (p := 51) (by decide +kernel) rfl kc_0 ?_
  refine fs_aload_n (k := 0) (p := 52) (by decide +kernel) rfl rfl ?_
  refine fs_gfr (idx := 9) (ci := 1) (j := 0) (p := 55) (by decide +kernel) rfl (by decide +kernel) fo_62 (fr_a62_0) ?_
  refine fs_iconst (n := 0) (p := 56) (by decide +kernel) rfl kc_0 ?_
  refine fs_iconst (n := 4) (p := 57) (by decide +kernel) rfl kc_4 ?_
  obtain ⟨t1, w2, h⟩ := fx_bd h
  refine fs_cpy (idx := 58) (p := 60) (by decide +kernel) rfl (by decide +kernel) rfl w2 ?_
  have h := Option.some.inj h
  subst h
  exact fs_ret (by decide +kernel) rt_16
def fm_16 (σ : fx_S) : Option (fx_S) :=
  (fm_14 σ).bind fun q11 =>
  if (q11.2.2 62 10) = (0 : Int64) then (
    fm_16_33 q11.1 q11.2) else (
    if ((q11.2.2 62 9) * (q11.2.2 62 8)) ≤ (q11.1 * (q11.2.2 62 10)) then (
      some q11.2) else (
      fm_16_33 q11.1 q11.2))
theorem fe_16 {d : Nat} (hd : 1 ≤ d) {σ : fx_S} {q : fx_S} (h : fm_16 σ = some q) : fx_E none 16 d 0 [some (.ref 62), none, none] [] σ none q := by
  unfold fm_16 at h
  refine fs_aload_n (k := 0) (p := 1) (by decide +kernel) rfl rfl ?_
  obtain ⟨q11, w10, h⟩ := fx_bd h
  refine fs_callV (idx := 99) (mj := 14) (ci := 1) (na := 0) (mx := 4) (p := 4) (args := [.ref 62]) (rest := []) (al2 := [some (.ref 62), none, none, none]) (by decide +kernel) rfl (by decide +kernel) fo_62 rfl rfl rfl rfl rfl rfl rfl (by omega) (fun d' hd' => fe_14 (by omega) w10) rfl ?_
  refine fs_lstore_n (k := 1) (p := 5) (M := 3) (al' := [some (.ref 62), some (.long q11.1), none]) (by decide +kernel) rfl mx_16 rfl rfl ?_
  refine fs_aload_n (k := 0) (p := 6) (by decide +kernel) rfl rfl ?_
  refine fs_gfl (idx := 87) (ci := 1) (j := 10) (p := 9) (by decide +kernel) rfl (by decide +kernel) fo_62 ?_
  refine fs_lconst (n := 0) (p := 10) (by decide +kernel) rfl kl_0 ?_
  by_cases c13 : (q11.2.2 62 10) = (0 : Int64)
  · rw [if_pos c13] at h
    refine fs_lcmp_eq_t (off := 22) (t := 33) (by decide +kernel) (by decide +kernel) (by decide +kernel) c13 ?_
    exact fe_16_33 hd _ _ _ h
  · rw [if_neg c13] at h
    refine fs_lcmp_eq_f (off := 22) (t := 33) (p := 14) (by decide +kernel) (by decide +kernel) (by decide +kernel) rfl c13 ?_
    refine fs_lload_n (k := 1) (p := 15) (by decide +kernel) rfl rfl ?_
    refine fs_aload_n (k := 0) (p := 16) (by decide +kernel) rfl rfl ?_
    refine fs_gfl (idx := 87) (ci := 1) (j := 10) (p := 19) (by decide +kernel) rfl (by decide +kernel) fo_62 ?_
    refine fs_lmul (p := 20) (by decide +kernel) rfl ?_
    refine fs_aload_n (k := 0) (p := 21) (by decide +kernel) rfl rfl ?_
    refine fs_gfl (idx := 90) (ci := 1) (j := 9) (p := 24) (by decide +kernel) rfl (by decide +kernel) fo_62 ?_
    refine fs_aload_n (k := 0) (p := 25) (by decide +kernel) rfl rfl ?_
    refine fs_gfl (idx := 70) (ci := 1) (j := 8) (p := 28) (by decide +kernel) rfl (by decide +kernel) fo_62 ?_
    refine fs_lmul (p := 29) (by decide +kernel) rfl ?_
    by_cases c16 : ((q11.2.2 62 9) * (q11.2.2 62 8)) ≤ (q11.1 * (q11.2.2 62 10))
    · rw [if_pos c16] at h
      refine fs_lcmp_ge_t (off := 30) (t := 60) (by decide +kernel) (by decide +kernel) (by decide +kernel) c16 ?_
      have h := Option.some.inj h
      subst h
      exact fs_ret (by decide +kernel) rt_16
    · rw [if_neg c16] at h
      refine fs_lcmp_ge_f (off := 30) (t := 60) (p := 33) (by decide +kernel) (by decide +kernel) (by decide +kernel) rfl c16 ?_
      exact fe_16_33 hd _ _ _ h

/-! ZoneShares$Fitter.nextRow()V -/
theorem mx_17 : iv_mx 17 = 2 := by decide +kernel
theorem rt_17 : iv_rt 17 = none := by decide +kernel
def fm_17_71 (k_2 : Int32 → fx_S → Option (fx_S)) (x1 : Int32) (σ : fx_S) : Option (fx_S) :=
  k_2 (x1 + (-1 : Int32)) σ
theorem fe_17_71 {d : Nat} (hd : 1 ≤ d) {k_2 : Int32 → fx_S → Option (fx_S)} (hk_2 : ∀ (x1 : Int32) (σ : fx_S) (q : fx_S), k_2 x1 σ = some q → fx_E none 17 d 2 [some (.ref 62), some (.int x1)] [] σ none q) (x1 : Int32) (σ : fx_S) (q : fx_S) (h : fm_17_71 k_2  x1 σ = some q) : fx_E none 17 d 71 [some (.ref 62), some (.int x1)] [] σ none q := by
  unfold fm_17_71 at h
  refine fs_iinc (k := 1) (n := -1) (p := 74) (M := 2) (al' := [some (.ref 62), some (.int (x1 + (-1 : Int32)))]) (by decide +kernel) rfl kc_m1 mx_17 rfl rfl rfl ?_
  refine fs_goto (off := -72) (p := 2) (by decide +kernel) (by decide +kernel) ?_
  exact hk_2 _ _ _ h
def fm_17_43 (k_2 : Int32 → fx_S → Option (fx_S)) (x1 : Int32) (σ : fx_S) : Option (fx_S) :=
  (fx_ld σ 66 x1).bind fun v1 =>
  if v1 ≤ 0 then (
    fm_17_71 k_2 x1 σ) else (
    (fx_ld σ 67 x1).bind fun v6 =>
    (fm_13 x1 (-v6) σ).bind fun q9 =>
    (fx_st q9 67 x1 (0 : Int32)).bind fun t10 =>
    fm_17_71 k_2 x1 t10)
theorem fe_17_43 {d : Nat} (hd : 1 ≤ d) {k_2 : Int32 → fx_S → Option (fx_S)} (hk_2 : ∀ (x1 : Int32) (σ : fx_S) (q : fx_S), k_2 x1 σ = some q → fx_E none 17 d 2 [some (.ref 62), some (.int x1)] [] σ none q) (x1 : Int32) (σ : fx_S) (q : fx_S) (h : fm_17_43 k_2  x1 σ = some q) : fx_E none 17 d 43 [some (.ref 62), some (.int x1)] [] σ none q := by
  unfold fm_17_43 at h
  refine fs_aload_n (k := 0) (p := 44) (by decide +kernel) rfl rfl ?_
  refine fs_gfr (idx := 21) (ci := 1) (j := 5) (p := 47) (by decide +kernel) rfl (by decide +kernel) fo_62 (fr_a62_5) ?_
  refine fs_iload_n (k := 1) (p := 48) (by decide +kernel) rfl rfl ?_
  obtain ⟨v1, w2, h⟩ := fx_bd h
  refine fs_iaload (p := 49) (by decide +kernel) rfl w2 ?_
  by_cases c5 : v1 ≤ 0
  · rw [if_pos c5] at h
    refine fs_if_le_t (off := 22) (t := 71) (by decide +kernel) (by decide +kernel) c5 ?_
    exact fe_17_71 hd hk_2 _ _ _ h
  · rw [if_neg c5] at h
    refine fs_if_le_f (off := 22) (t := 71) (p := 52) (by decide +kernel) (by decide +kernel) rfl c5 ?_
    refine fs_aload_n (k := 0) (p := 53) (by decide +kernel) rfl rfl ?_
    refine fs_iload_n (k := 1) (p := 54) (by decide +kernel) rfl rfl ?_
    refine fs_aload_n (k := 0) (p := 55) (by decide +kernel) rfl rfl ?_
    refine fs_gfr (idx := 24) (ci := 1) (j := 6) (p := 58) (by decide +kernel) rfl (by decide +kernel) fo_62 (fr_a62_6) ?_
    refine fs_iload_n (k := 1) (p := 59) (by decide +kernel) rfl rfl ?_
    obtain ⟨v6, w7, h⟩ := fx_bd h
    refine fs_iaload (p := 60) (by decide +kernel) rfl w7 ?_
    refine fs_ineg (p := 61) (by decide +kernel) rfl ?_
    obtain ⟨q9, w8, h⟩ := fx_bd h
    refine fs_callV (idx := 73) (mj := 13) (ci := 1) (na := 2) (mx := 4) (p := 64) (args := [.ref 62, .int x1, .int (-v6)]) (rest := []) (al2 := [some (.ref 62), some (.int x1), some (.int (-v6)), none]) (by decide +kernel) rfl (by decide +kernel) fo_62 rfl rfl rfl rfl rfl rfl rfl (by omega) (fun d' hd' => fe_13 (by omega) w8) rfl ?_
    refine fs_aload_n (k := 0) (p := 65) (by decide +kernel) rfl rfl ?_
    refine fs_gfr (idx := 24) (ci := 1) (j := 6) (p := 68) (by decide +kernel) rfl (by decide +kernel) fo_62 (fr_a62_6) ?_
    refine fs_iload_n (k := 1) (p := 69) (by decide +kernel) rfl rfl ?_
    refine fs_iconst (n := 0) (p := 70) (by decide +kernel) rfl kc_0 ?_
    obtain ⟨t10, w11, h⟩ := fx_bd h
    refine fs_iastore (p := 71) (by decide +kernel) rfl w11 ?_
    exact fe_17_71 hd hk_2 _ _ _ h
def fm_17_2 : Nat → Int32 → fx_S → Option (fx_S)
  | 0, _, _ => none
  | n + 1, x1, σ =>
    if x1 < 0 then (
      some σ) else (
      (fx_ld σ 66 x1).bind fun v3 =>
      if v3 ≤ 0 then (
        fm_17_43 (fm_17_2 n) x1 σ) else (
        (fx_ld σ 67 x1).bind fun v8 =>
        if (9 : Int32) ≤ v8 then (
          fm_17_43 (fm_17_2 n) x1 σ) else (
          (fx_ld σ 67 x1).bind fun v12 =>
          (fx_st σ 67 x1 (v12 + (1 : Int32))).bind fun t14 =>
          (fm_13 x1 (1 : Int32) t14).bind fun q17 =>
          some q17)))
theorem fe_17_2 {d : Nat} (hd : 1 ≤ d) : ∀ (n : Nat) (x1 : Int32) (σ : fx_S) (q : fx_S), fm_17_2 n x1 σ = some q → fx_E none 17 d 2 [some (.ref 62), some (.int x1)] [] σ none q := by
  intro n
  induction n with
  | zero =>
    intro x1 σ q  h
    rw [fm_17_2] at h
    exact fx_no h
  | succ n ih =>
    intro x1 σ q  h
    rw [fm_17_2] at h
    refine fs_iload_n (k := 1) (p := 3) (by decide +kernel) rfl rfl ?_
    by_cases c2 : x1 < 0
    · rw [if_pos c2] at h
      refine fs_if_lt_t (off := 74) (t := 77) (by decide +kernel) (by decide +kernel) c2 ?_
      have h := Option.some.inj h
      subst h
      exact fs_ret (by decide +kernel) rt_17
    · rw [if_neg c2] at h
      refine fs_if_lt_f (off := 74) (t := 77) (p := 6) (by decide +kernel) (by decide +kernel) rfl c2 ?_
      refine fs_aload_n (k := 0) (p := 7) (by decide +kernel) rfl rfl ?_
      refine fs_gfr (idx := 21) (ci := 1) (j := 5) (p := 10) (by decide +kernel) rfl (by decide +kernel) fo_62 (fr_a62_5) ?_
      refine fs_iload_n (k := 1) (p := 11) (by decide +kernel) rfl rfl ?_
      obtain ⟨v3, w4, h⟩ := fx_bd h
      refine fs_iaload (p := 12) (by decide +kernel) rfl w4 ?_
      by_cases c7 : v3 ≤ 0
      · rw [if_pos c7] at h
        refine fs_if_le_t (off := 31) (t := 43) (by decide +kernel) (by decide +kernel) c7 ?_
        exact fe_17_43 hd ih _ _ _ h
      · rw [if_neg c7] at h
        refine fs_if_le_f (off := 31) (t := 43) (p := 15) (by decide +kernel) (by decide +kernel) rfl c7 ?_
        refine fs_aload_n (k := 0) (p := 16) (by decide +kernel) rfl rfl ?_
        refine fs_gfr (idx := 24) (ci := 1) (j := 6) (p := 19) (by decide +kernel) rfl (by decide +kernel) fo_62 (fr_a62_6) ?_
        refine fs_iload_n (k := 1) (p := 20) (by decide +kernel) rfl rfl ?_
        obtain ⟨v8, w9, h⟩ := fx_bd h
        refine fs_iaload (p := 21) (by decide +kernel) rfl w9 ?_
        refine fs_bipush (n := 9) (p := 23) (by decide +kernel) rfl kb_9 ?_
        by_cases c11 : (9 : Int32) ≤ v8
        · rw [if_pos c11] at h
          refine fs_icmp_ge_t (off := 20) (t := 43) (by decide +kernel) (by decide +kernel) c11 ?_
          exact fe_17_43 hd ih _ _ _ h
        · rw [if_neg c11] at h
          refine fs_icmp_ge_f (off := 20) (t := 43) (p := 26) (by decide +kernel) (by decide +kernel) rfl c11 ?_
          refine fs_aload_n (k := 0) (p := 27) (by decide +kernel) rfl rfl ?_
          refine fs_gfr (idx := 24) (ci := 1) (j := 6) (p := 30) (by decide +kernel) rfl (by decide +kernel) fo_62 (fr_a62_6) ?_
          refine fs_iload_n (k := 1) (p := 31) (by decide +kernel) rfl rfl ?_
          refine fs_dup2 (p := 32) (by decide +kernel) rfl rfl rfl ?_
          obtain ⟨v12, w13, h⟩ := fx_bd h
          refine fs_iaload (p := 33) (by decide +kernel) rfl w13 ?_
          refine fs_iconst (n := 1) (p := 34) (by decide +kernel) rfl kc_1 ?_
          refine fs_iadd (p := 35) (by decide +kernel) rfl ?_
          obtain ⟨t14, w15, h⟩ := fx_bd h
          refine fs_iastore (p := 36) (by decide +kernel) rfl w15 ?_
          refine fs_aload_n (k := 0) (p := 37) (by decide +kernel) rfl rfl ?_
          refine fs_iload_n (k := 1) (p := 38) (by decide +kernel) rfl rfl ?_
          refine fs_iconst (n := 1) (p := 39) (by decide +kernel) rfl kc_1 ?_
          obtain ⟨q17, w16, h⟩ := fx_bd h
          refine fs_callV (idx := 73) (mj := 13) (ci := 1) (na := 2) (mx := 4) (p := 42) (args := [.ref 62, .int x1, .int (1 : Int32)]) (rest := []) (al2 := [some (.ref 62), some (.int x1), some (.int (1 : Int32)), none]) (by decide +kernel) rfl (by decide +kernel) fo_62 rfl rfl rfl rfl rfl rfl rfl (by omega) (fun d' hd' => fe_13 (by omega) w16) rfl ?_
          have h := Option.some.inj h
          subst h
          exact fs_ret (by decide +kernel) rt_17
def fm_17 (σ : fx_S) : Option (fx_S) :=
  fm_17_2 100000 (3 : Int32) σ
theorem fe_17 {d : Nat} (hd : 1 ≤ d) {σ : fx_S} {q : fx_S} (h : fm_17 σ = some q) : fx_E none 17 d 0 [some (.ref 62), none] [] σ none q := by
  unfold fm_17 at h
  refine fs_iconst (n := 3) (p := 1) (by decide +kernel) rfl kc_3 ?_
  refine fs_istore_n (k := 1) (p := 2) (M := 2) (al' := [some (.ref 62), some (.int (3 : Int32))]) (by decide +kernel) rfl mx_17 rfl rfl ?_
  exact fe_17_2 hd 100000 _ _ _ h

/-! ZoneShares$Group.lacks(I)Z -/
theorem mx_21 : iv_mx 21 = 3 := by decide +kernel
theorem rt_21 : iv_rt 21 = some .boolean := by decide +kernel
def fm_21_14 (x0 : Nat) (x1 : Int32) (s0 : Int32) (σ : fx_S) : Option (Bool × fx_S) :=
  if ¬ s0 = 0 then (
    some (false, (fx_w1 σ x0 8 ((σ.1 x0 8) ||| x1)))) else (
    some (true, (fx_w1 σ x0 8 ((σ.1 x0 8) ||| x1))))
theorem fe_21_14 {d : Nat} (hd : 0 ≤ d) (x0 : Nat) (x1 : Int32) (s0 : Int32) (σ : fx_S) (q : Bool × fx_S) (g0 : fx_oc x0 2 = true) (h : fm_21_14  x0 x1 s0 σ = some q) : fx_E none 21 d 14 [some (.ref x0), some (.int x1), none] [.int s0] σ (some (.int (fx_b q.1))) q.2 := by
  unfold fm_21_14 at h
  refine fs_istore_n (k := 2) (p := 15) (M := 3) (al' := [some (.ref x0), some (.int x1), some (.int s0)]) (by decide +kernel) rfl mx_21 rfl rfl ?_
  refine fs_aload_n (k := 0) (p := 16) (by decide +kernel) rfl rfl ?_
  refine fs_aload_n (k := 0) (p := 17) (by decide +kernel) rfl rfl ?_
  refine fs_gfi (idx := 85) (ci := 2) (j := 8) (p := 20) (by decide +kernel) rfl (by decide +kernel) g0 ?_
  refine fs_iload_n (k := 1) (p := 21) (by decide +kernel) rfl rfl ?_
  refine fs_ior (p := 22) (by decide +kernel) rfl ?_
  refine fs_pfi (idx := 85) (ci := 2) (j := 8) (p := 25) (by decide +kernel) rfl (by decide +kernel) (by decide +kernel) g0 (fx_oki _ (by decide +kernel)) ?_
  refine fs_iload_n (k := 2) (p := 26) (by decide +kernel) rfl rfl ?_
  by_cases c2 : ¬ s0 = 0
  · rw [if_pos c2] at h
    refine fs_if_ne_t (off := 7) (t := 33) (by decide +kernel) (by decide +kernel) c2 ?_
    refine fs_iconst (n := 0) (p := 34) (by decide +kernel) rfl kc_0 ?_
    have h := Option.some.inj h
    subst h
    exact fs_zret (b := false) (by decide +kernel) rt_21
  · rw [if_neg c2] at h
    refine fs_if_ne_f (off := 7) (t := 33) (p := 29) (by decide +kernel) (by decide +kernel) rfl c2 ?_
    refine fs_iconst (n := 1) (p := 30) (by decide +kernel) rfl kc_1 ?_
    refine fs_goto (off := 4) (p := 34) (by decide +kernel) (by decide +kernel) ?_
    have h := Option.some.inj h
    subst h
    exact fs_zret (b := true) (by decide +kernel) rt_21
def fm_21 (x0 : Nat) (x1 : Int32) (σ : fx_S) : Option (Bool × fx_S) :=
  if fx_oc x0 2 = true then (
  if ((σ.1 x0 8) &&& x1) = 0 then (
    fm_21_14 x0 x1 (0 : Int32) σ) else (
    fm_21_14 x0 x1 (1 : Int32) σ)) else none
theorem fe_21 {d : Nat} (hd : 0 ≤ d) {x0 : Nat} {x1 : Int32} {σ : fx_S} {q : Bool × fx_S} (h : fm_21 x0 x1 σ = some q) : fx_E none 21 d 0 [some (.ref x0), some (.int x1), none] [] σ (some (.int (fx_b q.1))) q.2 := by
  unfold fm_21 at h
  obtain ⟨g0, h⟩ := fx_gd h
  refine fs_aload_n (k := 0) (p := 1) (by decide +kernel) rfl rfl ?_
  refine fs_gfi (idx := 85) (ci := 2) (j := 8) (p := 4) (by decide +kernel) rfl (by decide +kernel) g0 ?_
  refine fs_iload_n (k := 1) (p := 5) (by decide +kernel) rfl rfl ?_
  refine fs_iand (p := 6) (by decide +kernel) rfl ?_
  by_cases c6 : ((σ.1 x0 8) &&& x1) = 0
  · rw [if_pos c6] at h
    refine fs_if_eq_t (off := 7) (t := 13) (by decide +kernel) (by decide +kernel) c6 ?_
    refine fs_iconst (n := 0) (p := 14) (by decide +kernel) rfl kc_0 ?_
    exact fe_21_14 hd _ _ _ _ _ g0 h
  · rw [if_neg c6] at h
    refine fs_if_eq_f (off := 7) (t := 13) (p := 9) (by decide +kernel) (by decide +kernel) rfl c6 ?_
    refine fs_iconst (n := 1) (p := 10) (by decide +kernel) rfl kc_1 ?_
    refine fs_goto (off := 4) (p := 14) (by decide +kernel) (by decide +kernel) ?_
    exact fe_21_14 hd _ _ _ _ _ g0 h

/-! ZoneShares$LayerText.valueOf(II)I -/
theorem mx_35 : iv_mx 35 = 2 := by decide +kernel
theorem rt_35 : iv_rt 35 = some .int := by decide +kernel
def fm_35 (x0 : Int32) (x1 : Int32) (σ : fx_S) : Option (Int32 × fx_S) :=
  if ¬ x1 = (2 : Int32) then (
    if ¬ x0 = (46 : Int32) then (
      if x0 < (97 : Int32) then (
        some ((-1 : Int32), σ)) else (
        if (104 : Int32) < x0 then (
          some ((-1 : Int32), σ)) else (
          some ((x0 - (97 : Int32)), σ)))) else (
      some ((8 : Int32), σ))) else (
    if x0 < (48 : Int32) then (
      some ((-1 : Int32), σ)) else (
      if (51 : Int32) < x0 then (
        some ((-1 : Int32), σ)) else (
        some ((x0 - (48 : Int32)), σ))))
theorem fe_35 {d : Nat} (hd : 0 ≤ d) {x0 : Int32} {x1 : Int32} {σ : fx_S} {q : Int32 × fx_S} (h : fm_35 x0 x1 σ = some q) : fx_E none 35 d 0 [some (.int x0), some (.int x1)] [] σ (some (.int q.1)) q.2 := by
  unfold fm_35 at h
  refine fs_iload_n (k := 1) (p := 1) (by decide +kernel) rfl rfl ?_
  refine fs_iconst (n := 2) (p := 2) (by decide +kernel) rfl kc_2 ?_
  by_cases c11 : ¬ x1 = (2 : Int32)
  · rw [if_pos c11] at h
    refine fs_icmp_ne_t (off := 24) (t := 26) (by decide +kernel) (by decide +kernel) c11 ?_
    refine fs_iload_n (k := 0) (p := 27) (by decide +kernel) rfl rfl ?_
    refine fs_bipush (n := 46) (p := 29) (by decide +kernel) rfl kb_46 ?_
    by_cases c13 : ¬ x0 = (46 : Int32)
    · rw [if_pos c13] at h
      refine fs_icmp_ne_t (off := 6) (t := 35) (by decide +kernel) (by decide +kernel) c13 ?_
      refine fs_iload_n (k := 0) (p := 36) (by decide +kernel) rfl rfl ?_
      refine fs_bipush (n := 97) (p := 38) (by decide +kernel) rfl kb_97 ?_
      by_cases c14 : x0 < (97 : Int32)
      · rw [if_pos c14] at h
        refine fs_icmp_lt_t (off := 16) (t := 54) (by decide +kernel) (by decide +kernel) c14 ?_
        refine fs_iconst (n := -1) (p := 55) (by decide +kernel) rfl kc_m1 ?_
        have h := Option.some.inj h
        subst h
        exact fs_iret (by decide +kernel) rt_35
      · rw [if_neg c14] at h
        refine fs_icmp_lt_f (off := 16) (t := 54) (p := 41) (by decide +kernel) (by decide +kernel) rfl c14 ?_
        refine fs_iload_n (k := 0) (p := 42) (by decide +kernel) rfl rfl ?_
        refine fs_bipush (n := 104) (p := 44) (by decide +kernel) rfl kb_104 ?_
        by_cases c15 : (104 : Int32) < x0
        · rw [if_pos c15] at h
          refine fs_icmp_gt_t (off := 10) (t := 54) (by decide +kernel) (by decide +kernel) c15 ?_
          refine fs_iconst (n := -1) (p := 55) (by decide +kernel) rfl kc_m1 ?_
          have h := Option.some.inj h
          subst h
          exact fs_iret (by decide +kernel) rt_35
        · rw [if_neg c15] at h
          refine fs_icmp_gt_f (off := 10) (t := 54) (p := 47) (by decide +kernel) (by decide +kernel) rfl c15 ?_
          refine fs_iload_n (k := 0) (p := 48) (by decide +kernel) rfl rfl ?_
          refine fs_bipush (n := 97) (p := 50) (by decide +kernel) rfl kb_97 ?_
          refine fs_isub (p := 51) (by decide +kernel) rfl ?_
          refine fs_goto (off := 4) (p := 55) (by decide +kernel) (by decide +kernel) ?_
          have h := Option.some.inj h
          subst h
          exact fs_iret (by decide +kernel) rt_35
    · rw [if_neg c13] at h
      refine fs_icmp_ne_f (off := 6) (t := 35) (p := 32) (by decide +kernel) (by decide +kernel) rfl c13 ?_
      refine fs_bipush (n := 8) (p := 34) (by decide +kernel) rfl kb_8 ?_
      have h := Option.some.inj h
      subst h
      exact fs_iret (by decide +kernel) rt_35
  · rw [if_neg c11] at h
    refine fs_icmp_ne_f (off := 24) (t := 26) (p := 5) (by decide +kernel) (by decide +kernel) rfl c11 ?_
    refine fs_iload_n (k := 0) (p := 6) (by decide +kernel) rfl rfl ?_
    refine fs_bipush (n := 48) (p := 8) (by decide +kernel) rfl kb_48 ?_
    by_cases c17 : x0 < (48 : Int32)
    · rw [if_pos c17] at h
      refine fs_icmp_lt_t (off := 16) (t := 24) (by decide +kernel) (by decide +kernel) c17 ?_
      refine fs_iconst (n := -1) (p := 25) (by decide +kernel) rfl kc_m1 ?_
      have h := Option.some.inj h
      subst h
      exact fs_iret (by decide +kernel) rt_35
    · rw [if_neg c17] at h
      refine fs_icmp_lt_f (off := 16) (t := 24) (p := 11) (by decide +kernel) (by decide +kernel) rfl c17 ?_
      refine fs_iload_n (k := 0) (p := 12) (by decide +kernel) rfl rfl ?_
      refine fs_bipush (n := 51) (p := 14) (by decide +kernel) rfl kb_51 ?_
      by_cases c18 : (51 : Int32) < x0
      · rw [if_pos c18] at h
        refine fs_icmp_gt_t (off := 10) (t := 24) (by decide +kernel) (by decide +kernel) c18 ?_
        refine fs_iconst (n := -1) (p := 25) (by decide +kernel) rfl kc_m1 ?_
        have h := Option.some.inj h
        subst h
        exact fs_iret (by decide +kernel) rt_35
      · rw [if_neg c18] at h
        refine fs_icmp_gt_f (off := 10) (t := 24) (p := 17) (by decide +kernel) (by decide +kernel) rfl c18 ?_
        refine fs_iload_n (k := 0) (p := 18) (by decide +kernel) rfl rfl ?_
        refine fs_bipush (n := 48) (p := 20) (by decide +kernel) rfl kb_48 ?_
        refine fs_isub (p := 21) (by decide +kernel) rfl ?_
        refine fs_goto (off := 4) (p := 25) (by decide +kernel) (by decide +kernel) ?_
        have h := Option.some.inj h
        subst h
        exact fs_iret (by decide +kernel) rt_35

/-! ZoneShares$LayerText.wrongSign()I -/
theorem mx_36 : iv_mx 36 = 1 := by decide +kernel
theorem rt_36 : iv_rt 36 = some .int := by decide +kernel
def fm_36 (σ : fx_S) : Option (Int32 × fx_S) :=
  if (σ.1 58 3) < (σ.1 58 2) then (
    some ((0 : Int32), σ)) else (
    some ((3 : Int32), σ))
theorem fe_36 {d : Nat} (hd : 0 ≤ d) {σ : fx_S} {q : Int32 × fx_S} (h : fm_36 σ = some q) : fx_E none 36 d 0 [some (.ref 58)] [] σ (some (.int q.1)) q.2 := by
  unfold fm_36 at h
  refine fs_aload_n (k := 0) (p := 1) (by decide +kernel) rfl rfl ?_
  refine fs_gfi (idx := 36) (ci := 4) (j := 3) (p := 4) (by decide +kernel) rfl (by decide +kernel) fo_58 ?_
  refine fs_aload_n (k := 0) (p := 5) (by decide +kernel) rfl rfl ?_
  refine fs_gfi (idx := 28) (ci := 4) (j := 2) (p := 8) (by decide +kernel) rfl (by decide +kernel) fo_58 ?_
  by_cases c6 : (σ.1 58 3) < (σ.1 58 2)
  · rw [if_pos c6] at h
    refine fs_icmp_lt_t (off := 7) (t := 15) (by decide +kernel) (by decide +kernel) c6 ?_
    refine fs_iconst (n := 0) (p := 16) (by decide +kernel) rfl kc_0 ?_
    have h := Option.some.inj h
    subst h
    exact fs_iret (by decide +kernel) rt_36
  · rw [if_neg c6] at h
    refine fs_icmp_lt_f (off := 7) (t := 15) (p := 11) (by decide +kernel) (by decide +kernel) rfl c6 ?_
    refine fs_iconst (n := 3) (p := 12) (by decide +kernel) rfl kc_3 ?_
    refine fs_goto (off := 4) (p := 16) (by decide +kernel) (by decide +kernel) ?_
    have h := Option.some.inj h
    subst h
    exact fs_iret (by decide +kernel) rt_36

/-! ZoneShares$LayerText.wrongBreak(I)I -/
theorem mx_37 : iv_mx 37 = 2 := by decide +kernel
theorem rt_37 : iv_rt 37 = some .int := by decide +kernel
def fm_37_40 (x1 : Int32) (σ : fx_S) : Option (Int32 × fx_S) :=
  if ¬ x1 = (47 : Int32) then (
    if (σ.1 58 6) = 0 then (
      some ((0 : Int32), σ)) else (
      if (σ.1 58 4) ≤ ((σ.1 58 1) + (1 : Int32)) then (
        some ((0 : Int32), σ)) else (
        some ((4 : Int32), σ)))) else (
    if ((σ.1 58 1) + (1 : Int32)) < (σ.1 58 4) then (
      some ((0 : Int32), σ)) else (
      some ((3 : Int32), σ)))
theorem fe_37_40 {d : Nat} (hd : 0 ≤ d) (x1 : Int32) (σ : fx_S) (q : Int32 × fx_S) (h : fm_37_40  x1 σ = some q) : fx_E none 37 d 40 [some (.ref 58), some (.int x1)] [] σ (some (.int q.1)) q.2 := by
  unfold fm_37_40 at h
  refine fs_iload_n (k := 1) (p := 41) (by decide +kernel) rfl rfl ?_
  refine fs_bipush (n := 47) (p := 43) (by decide +kernel) rfl kb_47 ?_
  by_cases c2 : ¬ x1 = (47 : Int32)
  · rw [if_pos c2] at h
    refine fs_icmp_ne_t (off := 22) (t := 65) (by decide +kernel) (by decide +kernel) c2 ?_
    refine fs_aload_n (k := 0) (p := 66) (by decide +kernel) rfl rfl ?_
    refine fs_gfi (idx := 15) (ci := 4) (j := 6) (p := 69) (by decide +kernel) rfl (by decide +kernel) fo_58 ?_
    by_cases c4 : (σ.1 58 6) = 0
    · rw [if_pos c4] at h
      refine fs_if_eq_t (off := 20) (t := 89) (by decide +kernel) (by decide +kernel) c4 ?_
      refine fs_iconst (n := 0) (p := 90) (by decide +kernel) rfl kc_0 ?_
      have h := Option.some.inj h
      subst h
      exact fs_iret (by decide +kernel) rt_37
    · rw [if_neg c4] at h
      refine fs_if_eq_f (off := 20) (t := 89) (p := 72) (by decide +kernel) (by decide +kernel) rfl c4 ?_
      refine fs_aload_n (k := 0) (p := 73) (by decide +kernel) rfl rfl ?_
      refine fs_gfi (idx := 35) (ci := 4) (j := 1) (p := 76) (by decide +kernel) rfl (by decide +kernel) fo_58 ?_
      refine fs_iconst (n := 1) (p := 77) (by decide +kernel) rfl kc_1 ?_
      refine fs_iadd (p := 78) (by decide +kernel) rfl ?_
      refine fs_aload_n (k := 0) (p := 79) (by decide +kernel) rfl rfl ?_
      refine fs_gfi (idx := 32) (ci := 4) (j := 4) (p := 82) (by decide +kernel) rfl (by decide +kernel) fo_58 ?_
      by_cases c7 : (σ.1 58 4) ≤ ((σ.1 58 1) + (1 : Int32))
      · rw [if_pos c7] at h
        refine fs_icmp_ge_t (off := 7) (t := 89) (by decide +kernel) (by decide +kernel) c7 ?_
        refine fs_iconst (n := 0) (p := 90) (by decide +kernel) rfl kc_0 ?_
        have h := Option.some.inj h
        subst h
        exact fs_iret (by decide +kernel) rt_37
      · rw [if_neg c7] at h
        refine fs_icmp_ge_f (off := 7) (t := 89) (p := 85) (by decide +kernel) (by decide +kernel) rfl c7 ?_
        refine fs_iconst (n := 4) (p := 86) (by decide +kernel) rfl kc_4 ?_
        refine fs_goto (off := 4) (p := 90) (by decide +kernel) (by decide +kernel) ?_
        have h := Option.some.inj h
        subst h
        exact fs_iret (by decide +kernel) rt_37
  · rw [if_neg c2] at h
    refine fs_icmp_ne_f (off := 22) (t := 65) (p := 46) (by decide +kernel) (by decide +kernel) rfl c2 ?_
    refine fs_aload_n (k := 0) (p := 47) (by decide +kernel) rfl rfl ?_
    refine fs_gfi (idx := 35) (ci := 4) (j := 1) (p := 50) (by decide +kernel) rfl (by decide +kernel) fo_58 ?_
    refine fs_iconst (n := 1) (p := 51) (by decide +kernel) rfl kc_1 ?_
    refine fs_iadd (p := 52) (by decide +kernel) rfl ?_
    refine fs_aload_n (k := 0) (p := 53) (by decide +kernel) rfl rfl ?_
    refine fs_gfi (idx := 32) (ci := 4) (j := 4) (p := 56) (by decide +kernel) rfl (by decide +kernel) fo_58 ?_
    by_cases c10 : ((σ.1 58 1) + (1 : Int32)) < (σ.1 58 4)
    · rw [if_pos c10] at h
      refine fs_icmp_lt_t (off := 7) (t := 63) (by decide +kernel) (by decide +kernel) c10 ?_
      refine fs_iconst (n := 0) (p := 64) (by decide +kernel) rfl kc_0 ?_
      have h := Option.some.inj h
      subst h
      exact fs_iret (by decide +kernel) rt_37
    · rw [if_neg c10] at h
      refine fs_icmp_lt_f (off := 7) (t := 63) (p := 59) (by decide +kernel) (by decide +kernel) rfl c10 ?_
      refine fs_iconst (n := 3) (p := 60) (by decide +kernel) rfl kc_3 ?_
      refine fs_goto (off := 4) (p := 64) (by decide +kernel) (by decide +kernel) ?_
      have h := Option.some.inj h
      subst h
      exact fs_iret (by decide +kernel) rt_37
def fm_37_20 (x1 : Int32) (σ : fx_S) : Option (Int32 × fx_S) :=
  if (σ.1 58 5) = 0 then (
    fm_37_40 x1 σ) else (
    if (σ.1 58 2) ≤ (σ.1 58 3) then (
      fm_37_40 x1 σ) else (
      some ((2 : Int32), σ)))
theorem fe_37_20 {d : Nat} (hd : 0 ≤ d) (x1 : Int32) (σ : fx_S) (q : Int32 × fx_S) (h : fm_37_20  x1 σ = some q) : fx_E none 37 d 20 [some (.ref 58), some (.int x1)] [] σ (some (.int q.1)) q.2 := by
  unfold fm_37_20 at h
  refine fs_aload_n (k := 0) (p := 21) (by decide +kernel) rfl rfl ?_
  refine fs_gfi (idx := 19) (ci := 4) (j := 5) (p := 24) (by decide +kernel) rfl (by decide +kernel) fo_58 ?_
  by_cases c2 : (σ.1 58 5) = 0
  · rw [if_pos c2] at h
    refine fs_if_eq_t (off := 16) (t := 40) (by decide +kernel) (by decide +kernel) c2 ?_
    exact fe_37_40 hd _ _ _ h
  · rw [if_neg c2] at h
    refine fs_if_eq_f (off := 16) (t := 40) (p := 27) (by decide +kernel) (by decide +kernel) rfl c2 ?_
    refine fs_aload_n (k := 0) (p := 28) (by decide +kernel) rfl rfl ?_
    refine fs_gfi (idx := 36) (ci := 4) (j := 3) (p := 31) (by decide +kernel) rfl (by decide +kernel) fo_58 ?_
    refine fs_aload_n (k := 0) (p := 32) (by decide +kernel) rfl rfl ?_
    refine fs_gfi (idx := 28) (ci := 4) (j := 2) (p := 35) (by decide +kernel) rfl (by decide +kernel) fo_58 ?_
    by_cases c5 : (σ.1 58 2) ≤ (σ.1 58 3)
    · rw [if_pos c5] at h
      refine fs_icmp_ge_t (off := 5) (t := 40) (by decide +kernel) (by decide +kernel) c5 ?_
      exact fe_37_40 hd _ _ _ h
    · rw [if_neg c5] at h
      refine fs_icmp_ge_f (off := 5) (t := 40) (p := 38) (by decide +kernel) (by decide +kernel) rfl c5 ?_
      refine fs_iconst (n := 2) (p := 39) (by decide +kernel) rfl kc_2 ?_
      have h := Option.some.inj h
      subst h
      exact fs_iret (by decide +kernel) rt_37
def fm_37 (x1 : Int32) (σ : fx_S) : Option (Int32 × fx_S) :=
  if (σ.1 58 3) = 0 then (
    some ((1 : Int32), σ)) else (
    if x1 = (47 : Int32) then (
      fm_37_20 x1 σ) else (
      if x1 = (-1 : Int32) then (
        fm_37_20 x1 σ) else (
        some ((1 : Int32), σ))))
theorem fe_37 {d : Nat} (hd : 0 ≤ d) {x1 : Int32} {σ : fx_S} {q : Int32 × fx_S} (h : fm_37 x1 σ = some q) : fx_E none 37 d 0 [some (.ref 58), some (.int x1)] [] σ (some (.int q.1)) q.2 := by
  unfold fm_37 at h
  refine fs_aload_n (k := 0) (p := 1) (by decide +kernel) rfl rfl ?_
  refine fs_gfi (idx := 36) (ci := 4) (j := 3) (p := 4) (by decide +kernel) rfl (by decide +kernel) fo_58 ?_
  by_cases c22 : (σ.1 58 3) = 0
  · rw [if_pos c22] at h
    refine fs_if_eq_t (off := 14) (t := 18) (by decide +kernel) (by decide +kernel) c22 ?_
    refine fs_iconst (n := 1) (p := 19) (by decide +kernel) rfl kc_1 ?_
    have h := Option.some.inj h
    subst h
    exact fs_iret (by decide +kernel) rt_37
  · rw [if_neg c22] at h
    refine fs_if_eq_f (off := 14) (t := 18) (p := 7) (by decide +kernel) (by decide +kernel) rfl c22 ?_
    refine fs_iload_n (k := 1) (p := 8) (by decide +kernel) rfl rfl ?_
    refine fs_bipush (n := 47) (p := 10) (by decide +kernel) rfl kb_47 ?_
    by_cases c24 : x1 = (47 : Int32)
    · rw [if_pos c24] at h
      refine fs_icmp_eq_t (off := 10) (t := 20) (by decide +kernel) (by decide +kernel) c24 ?_
      exact fe_37_20 hd _ _ _ h
    · rw [if_neg c24] at h
      refine fs_icmp_eq_f (off := 10) (t := 20) (p := 13) (by decide +kernel) (by decide +kernel) rfl c24 ?_
      refine fs_iload_n (k := 1) (p := 14) (by decide +kernel) rfl rfl ?_
      refine fs_iconst (n := -1) (p := 15) (by decide +kernel) rfl kc_m1 ?_
      by_cases c25 : x1 = (-1 : Int32)
      · rw [if_pos c25] at h
        refine fs_icmp_eq_t (off := 5) (t := 20) (by decide +kernel) (by decide +kernel) c25 ?_
        exact fe_37_20 hd _ _ _ h
      · rw [if_neg c25] at h
        refine fs_icmp_eq_f (off := 5) (t := 20) (p := 18) (by decide +kernel) (by decide +kernel) rfl c25 ?_
        refine fs_iconst (n := 1) (p := 19) (by decide +kernel) rfl kc_1 ?_
        have h := Option.some.inj h
        subst h
        exact fs_iret (by decide +kernel) rt_37

/-! ZoneShares$LayerText.endRow()V -/
theorem mx_38 : iv_mx 38 = 1 := by decide +kernel
theorem rt_38 : iv_rt 38 = none := by decide +kernel
def fm_38 (σ : fx_S) : Option (fx_S) :=
  some (fx_w1 (fx_w1 (fx_w1 (fx_w1 σ 58 2 (σ.1 58 3)) 58 5 (1 : Int32)) 58 1 (((fx_w1 (fx_w1 σ 58 2 (σ.1 58 3)) 58 5 (1 : Int32)).1 58 1) + (1 : Int32))) 58 3 (0 : Int32))
theorem fe_38 {d : Nat} (hd : 0 ≤ d) {σ : fx_S} {q : fx_S} (h : fm_38 σ = some q) : fx_E none 38 d 0 [some (.ref 58)] [] σ none q := by
  unfold fm_38 at h
  refine fs_aload_n (k := 0) (p := 1) (by decide +kernel) rfl rfl ?_
  refine fs_aload_n (k := 0) (p := 2) (by decide +kernel) rfl rfl ?_
  refine fs_gfi (idx := 36) (ci := 4) (j := 3) (p := 5) (by decide +kernel) rfl (by decide +kernel) fo_58 ?_
  refine fs_pfi (idx := 28) (ci := 4) (j := 2) (p := 8) (by decide +kernel) rfl (by decide +kernel) (by decide +kernel) fo_58 (fx_oki _ (by decide +kernel)) ?_
  refine fs_aload_n (k := 0) (p := 9) (by decide +kernel) rfl rfl ?_
  refine fs_iconst (n := 1) (p := 10) (by decide +kernel) rfl kc_1 ?_
  refine fs_pfi (idx := 19) (ci := 4) (j := 5) (p := 13) (by decide +kernel) rfl (by decide +kernel) (by decide +kernel) fo_58 (fx_okd (by decide) (by decide +kernel)) ?_
  refine fs_aload_n (k := 0) (p := 14) (by decide +kernel) rfl rfl ?_
  refine fs_dup (p := 15) (by decide +kernel) rfl rfl ?_
  refine fs_gfi (idx := 35) (ci := 4) (j := 1) (p := 18) (by decide +kernel) rfl (by decide +kernel) fo_58 ?_
  refine fs_iconst (n := 1) (p := 19) (by decide +kernel) rfl kc_1 ?_
  refine fs_iadd (p := 20) (by decide +kernel) rfl ?_
  refine fs_pfi (idx := 35) (ci := 4) (j := 1) (p := 23) (by decide +kernel) rfl (by decide +kernel) (by decide +kernel) fo_58 (fx_oki _ (by decide +kernel)) ?_
  refine fs_aload_n (k := 0) (p := 24) (by decide +kernel) rfl rfl ?_
  refine fs_iconst (n := 0) (p := 25) (by decide +kernel) rfl kc_0 ?_
  refine fs_pfi (idx := 36) (ci := 4) (j := 3) (p := 28) (by decide +kernel) rfl (by decide +kernel) (by decide +kernel) fo_58 (fx_oki _ (by decide +kernel)) ?_
  have h := Option.some.inj h
  subst h
  exact fs_ret (by decide +kernel) rt_38

/-! ZoneShares$LayerText.put(I)V -/
theorem mx_39 : iv_mx 39 = 3 := by decide +kernel
theorem rt_39 : iv_rt 39 = none := by decide +kernel
def fm_39_28 (σ : fx_S) : Option (fx_S) :=
  some (fx_w1 σ 58 3 ((σ.1 58 3) + (1 : Int32)))
theorem fe_39_28 {d : Nat} (hd : 0 ≤ d) (o1 : Option Value) (o2 : Option Value) (σ : fx_S) (q : fx_S) (h : fm_39_28  σ = some q) : fx_E none 39 d 28 [some (.ref 58), o1, o2] [] σ none q := by
  unfold fm_39_28 at h
  refine fs_aload_n (k := 0) (p := 29) (by decide +kernel) rfl rfl ?_
  refine fs_dup (p := 30) (by decide +kernel) rfl rfl ?_
  refine fs_gfi (idx := 36) (ci := 4) (j := 3) (p := 33) (by decide +kernel) rfl (by decide +kernel) fo_58 ?_
  refine fs_iconst (n := 1) (p := 34) (by decide +kernel) rfl kc_1 ?_
  refine fs_iadd (p := 35) (by decide +kernel) rfl ?_
  refine fs_pfi (idx := 36) (ci := 4) (j := 3) (p := 38) (by decide +kernel) rfl (by decide +kernel) (by decide +kernel) fo_58 (fx_oki _ (by decide +kernel)) ?_
  have h := Option.some.inj h
  subst h
  exact fs_ret (by decide +kernel) rt_39
def fm_39 (x1 : Int32) (σ : fx_S) : Option (fx_S) :=
  if (96 : Int32) ≤ (((σ.1 58 1) * (σ.1 58 2)) + (σ.1 58 3)) then (
    fm_39_28 σ) else (
    (fx_st σ 59 (((σ.1 58 1) * (σ.1 58 2)) + (σ.1 58 3)) x1).bind fun t8 =>
    fm_39_28 t8)
theorem fe_39 {d : Nat} (hd : 0 ≤ d) {x1 : Int32} {σ : fx_S} {q : fx_S} (h : fm_39 x1 σ = some q) : fx_E none 39 d 0 [some (.ref 58), some (.int x1), none] [] σ none q := by
  unfold fm_39 at h
  refine fs_aload_n (k := 0) (p := 1) (by decide +kernel) rfl rfl ?_
  refine fs_gfi (idx := 35) (ci := 4) (j := 1) (p := 4) (by decide +kernel) rfl (by decide +kernel) fo_58 ?_
  refine fs_aload_n (k := 0) (p := 5) (by decide +kernel) rfl rfl ?_
  refine fs_gfi (idx := 28) (ci := 4) (j := 2) (p := 8) (by decide +kernel) rfl (by decide +kernel) fo_58 ?_
  refine fs_imul (p := 9) (by decide +kernel) rfl ?_
  refine fs_aload_n (k := 0) (p := 10) (by decide +kernel) rfl rfl ?_
  refine fs_gfi (idx := 36) (ci := 4) (j := 3) (p := 13) (by decide +kernel) rfl (by decide +kernel) fo_58 ?_
  refine fs_iadd (p := 14) (by decide +kernel) rfl ?_
  refine fs_istore_n (k := 2) (p := 15) (M := 3) (al' := [some (.ref 58), some (.int x1), some (.int (((σ.1 58 1) * (σ.1 58 2)) + (σ.1 58 3)))]) (by decide +kernel) rfl mx_39 rfl rfl ?_
  refine fs_iload_n (k := 2) (p := 16) (by decide +kernel) rfl rfl ?_
  refine fs_bipush (n := 96) (p := 18) (by decide +kernel) rfl kb_96 ?_
  by_cases c7 : (96 : Int32) ≤ (((σ.1 58 1) * (σ.1 58 2)) + (σ.1 58 3))
  · rw [if_pos c7] at h
    refine fs_icmp_ge_t (off := 10) (t := 28) (by decide +kernel) (by decide +kernel) c7 ?_
    exact fe_39_28 hd _ _ _ _ h
  · rw [if_neg c7] at h
    refine fs_icmp_ge_f (off := 10) (t := 28) (p := 21) (by decide +kernel) (by decide +kernel) rfl c7 ?_
    refine fs_aload_n (k := 0) (p := 22) (by decide +kernel) rfl rfl ?_
    refine fs_gfr (idx := 9) (ci := 4) (j := 0) (p := 25) (by decide +kernel) rfl (by decide +kernel) fo_58 (fr_a58_0) ?_
    refine fs_iload_n (k := 2) (p := 26) (by decide +kernel) rfl rfl ?_
    refine fs_iload_n (k := 1) (p := 27) (by decide +kernel) rfl rfl ?_
    obtain ⟨t8, w9, h⟩ := fx_bd h
    refine fs_iastore (p := 28) (by decide +kernel) rfl w9 ?_
    exact fe_39_28 hd _ _ _ _ h

/-! ZoneShares$Rounder.reach(II)V -/
theorem mx_47 : iv_mx 47 = 3 := by decide +kernel
theorem rt_47 : iv_rt 47 = none := by decide +kernel
def fm_47 (x1 : Int32) (x2 : Int32) (σ : fx_S) : Option (fx_S) :=
  (fx_ld σ 12 x1).bind fun v13 =>
  if ¬ v13 = (-1 : Int32) then (
    some σ) else (
    if (18 : Int32) ≤ (σ.1 6 7) then (
      some σ) else (
      (fx_st σ 12 x1 x2).bind fun t20 =>
      (fx_st t20 13 (t20.1 6 7) x1).bind fun t22 =>
      some (fx_w1 t22 6 7 ((t22.1 6 7) + (1 : Int32)))))
theorem fe_47 {d : Nat} (hd : 0 ≤ d) {x1 : Int32} {x2 : Int32} {σ : fx_S} {q : fx_S} (h : fm_47 x1 x2 σ = some q) : fx_E none 47 d 0 [some (.ref 6), some (.int x1), some (.int x2)] [] σ none q := by
  unfold fm_47 at h
  refine fs_aload_n (k := 0) (p := 1) (by decide +kernel) rfl rfl ?_
  refine fs_gfr (idx := 27) (ci := 5) (j := 5) (p := 4) (by decide +kernel) rfl (by decide +kernel) fo_6 (fr_a6_5) ?_
  refine fs_iload_n (k := 1) (p := 5) (by decide +kernel) rfl rfl ?_
  obtain ⟨v13, w14, h⟩ := fx_bd h
  refine fs_iaload (p := 6) (by decide +kernel) rfl w14 ?_
  refine fs_iconst (n := -1) (p := 7) (by decide +kernel) rfl kc_m1 ?_
  by_cases c17 : ¬ v13 = (-1 : Int32)
  · rw [if_pos c17] at h
    refine fs_icmp_ne_t (off := 39) (t := 46) (by decide +kernel) (by decide +kernel) c17 ?_
    have h := Option.some.inj h
    subst h
    exact fs_ret (by decide +kernel) rt_47
  · rw [if_neg c17] at h
    refine fs_icmp_ne_f (off := 39) (t := 46) (p := 10) (by decide +kernel) (by decide +kernel) rfl c17 ?_
    refine fs_aload_n (k := 0) (p := 11) (by decide +kernel) rfl rfl ?_
    refine fs_gfi (idx := 90) (ci := 5) (j := 7) (p := 14) (by decide +kernel) rfl (by decide +kernel) fo_6 ?_
    refine fs_bipush (n := 18) (p := 16) (by decide +kernel) rfl kb_18 ?_
    by_cases c19 : (18 : Int32) ≤ (σ.1 6 7)
    · rw [if_pos c19] at h
      refine fs_icmp_ge_t (off := 30) (t := 46) (by decide +kernel) (by decide +kernel) c19 ?_
      have h := Option.some.inj h
      subst h
      exact fs_ret (by decide +kernel) rt_47
    · rw [if_neg c19] at h
      refine fs_icmp_ge_f (off := 30) (t := 46) (p := 19) (by decide +kernel) (by decide +kernel) rfl c19 ?_
      refine fs_aload_n (k := 0) (p := 20) (by decide +kernel) rfl rfl ?_
      refine fs_gfr (idx := 27) (ci := 5) (j := 5) (p := 23) (by decide +kernel) rfl (by decide +kernel) fo_6 (fr_a6_5) ?_
      refine fs_iload_n (k := 1) (p := 24) (by decide +kernel) rfl rfl ?_
      refine fs_iload_n (k := 2) (p := 25) (by decide +kernel) rfl rfl ?_
      obtain ⟨t20, w21, h⟩ := fx_bd h
      refine fs_iastore (p := 26) (by decide +kernel) rfl w21 ?_
      refine fs_aload_n (k := 0) (p := 27) (by decide +kernel) rfl rfl ?_
      refine fs_gfr (idx := 30) (ci := 5) (j := 6) (p := 30) (by decide +kernel) rfl (by decide +kernel) fo_6 (fr_a6_6) ?_
      refine fs_aload_n (k := 0) (p := 31) (by decide +kernel) rfl rfl ?_
      refine fs_gfi (idx := 90) (ci := 5) (j := 7) (p := 34) (by decide +kernel) rfl (by decide +kernel) fo_6 ?_
      refine fs_iload_n (k := 1) (p := 35) (by decide +kernel) rfl rfl ?_
      obtain ⟨t22, w23, h⟩ := fx_bd h
      refine fs_iastore (p := 36) (by decide +kernel) rfl w23 ?_
      refine fs_aload_n (k := 0) (p := 37) (by decide +kernel) rfl rfl ?_
      refine fs_dup (p := 38) (by decide +kernel) rfl rfl ?_
      refine fs_gfi (idx := 90) (ci := 5) (j := 7) (p := 41) (by decide +kernel) rfl (by decide +kernel) fo_6 ?_
      refine fs_iconst (n := 1) (p := 42) (by decide +kernel) rfl kc_1 ?_
      refine fs_iadd (p := 43) (by decide +kernel) rfl ?_
      refine fs_pfi (idx := 90) (ci := 5) (j := 7) (p := 46) (by decide +kernel) rfl (by decide +kernel) (by decide +kernel) fo_6 (fx_oki _ (by decide +kernel)) ?_
      have h := Option.some.inj h
      subst h
      exact fs_ret (by decide +kernel) rt_47

/-! ZoneShares$Rounder.spreadRow(I)V -/
theorem mx_48 : iv_mx 48 = 4 := by decide +kernel
theorem rt_48 : iv_rt 48 = none := by decide +kernel
def fm_48_43 (k_2 : Int32 → Int32 → fx_S → Option (fx_S)) (x1 : Int32) (x2 : Int32) (σ : fx_S) : Option (fx_S) :=
  k_2 x1 (x2 + (1 : Int32)) σ
theorem fe_48_43 {d : Nat} (hd : 1 ≤ d) {k_2 : Int32 → Int32 → fx_S → Option (fx_S)} (hk_2 : ∀ (x1 : Int32) (x2 : Int32) (o3 : Option Value) (σ : fx_S) (q : fx_S), k_2 x1 x2 σ = some q → fx_E none 48 d 2 [some (.ref 6), some (.int x1), some (.int x2), o3] [] σ none q) (x1 : Int32) (x2 : Int32) (o3 : Option Value) (σ : fx_S) (q : fx_S) (h : fm_48_43 k_2  x1 x2 σ = some q) : fx_E none 48 d 43 [some (.ref 6), some (.int x1), some (.int x2), o3] [] σ none q := by
  unfold fm_48_43 at h
  refine fs_iinc (k := 2) (n := 1) (p := 46) (M := 4) (al' := [some (.ref 6), some (.int x1), some (.int (x2 + (1 : Int32))), o3]) (by decide +kernel) rfl kc_1 mx_48 rfl rfl rfl ?_
  refine fs_goto (off := -44) (p := 2) (by decide +kernel) (by decide +kernel) ?_
  exact hk_2 _ _ _ _ _ h
def fm_48_2 : Nat → Int32 → Int32 → fx_S → Option (fx_S)
  | 0, _, _, _ => none
  | n + 1, x1, x2, σ =>
    if (9 : Int32) ≤ x2 then (
      some σ) else (
      (fx_ld σ 7 ((x1 * (9 : Int32)) + x2)).bind fun v3 =>
      if ¬ v3 = (1 : Int32) then (
        fm_48_43 (fm_48_2 n) x1 x2 σ) else (
        (fx_ld σ 8 ((x1 * (9 : Int32)) + x2)).bind fun v8 =>
        if ¬ v8 = 0 then (
          fm_48_43 (fm_48_2 n) x1 x2 σ) else (
          (fm_47 ((8 : Int32) + x2) x1 σ).bind fun q13 =>
          fm_48_43 (fm_48_2 n) x1 x2 q13)))
theorem fe_48_2 {d : Nat} (hd : 1 ≤ d) : ∀ (n : Nat) (x1 : Int32) (x2 : Int32) (o3 : Option Value) (σ : fx_S) (q : fx_S), fm_48_2 n x1 x2 σ = some q → fx_E none 48 d 2 [some (.ref 6), some (.int x1), some (.int x2), o3] [] σ none q := by
  intro n
  induction n with
  | zero =>
    intro x1 x2 o3 σ q  h
    rw [fm_48_2] at h
    exact fx_no h
  | succ n ih =>
    intro x1 x2 o3 σ q  h
    rw [fm_48_2] at h
    refine fs_iload_n (k := 2) (p := 3) (by decide +kernel) rfl rfl ?_
    refine fs_bipush (n := 9) (p := 5) (by decide +kernel) rfl kb_9 ?_
    by_cases c2 : (9 : Int32) ≤ x2
    · rw [if_pos c2] at h
      refine fs_icmp_ge_t (off := 44) (t := 49) (by decide +kernel) (by decide +kernel) c2 ?_
      have h := Option.some.inj h
      subst h
      exact fs_ret (by decide +kernel) rt_48
    · rw [if_neg c2] at h
      refine fs_icmp_ge_f (off := 44) (t := 49) (p := 8) (by decide +kernel) (by decide +kernel) rfl c2 ?_
      refine fs_iload_n (k := 1) (p := 9) (by decide +kernel) rfl rfl ?_
      refine fs_bipush (n := 9) (p := 11) (by decide +kernel) rfl kb_9 ?_
      refine fs_imul (p := 12) (by decide +kernel) rfl ?_
      refine fs_iload_n (k := 2) (p := 13) (by decide +kernel) rfl rfl ?_
      refine fs_iadd (p := 14) (by decide +kernel) rfl ?_
      refine fs_istore_n (k := 3) (p := 15) (M := 4) (al' := [some (.ref 6), some (.int x1), some (.int x2), some (.int ((x1 * (9 : Int32)) + x2))]) (by decide +kernel) rfl mx_48 rfl rfl ?_
      refine fs_aload_n (k := 0) (p := 16) (by decide +kernel) rfl rfl ?_
      refine fs_gfr (idx := 11) (ci := 5) (j := 0) (p := 19) (by decide +kernel) rfl (by decide +kernel) fo_6 (fr_a6_0) ?_
      refine fs_iload_n (k := 3) (p := 20) (by decide +kernel) rfl rfl ?_
      obtain ⟨v3, w4, h⟩ := fx_bd h
      refine fs_iaload (p := 21) (by decide +kernel) rfl w4 ?_
      refine fs_iconst (n := 1) (p := 22) (by decide +kernel) rfl kc_1 ?_
      by_cases c7 : ¬ v3 = (1 : Int32)
      · rw [if_pos c7] at h
        refine fs_icmp_ne_t (off := 21) (t := 43) (by decide +kernel) (by decide +kernel) c7 ?_
        exact fe_48_43 hd ih _ _ _ _ _ h
      · rw [if_neg c7] at h
        refine fs_icmp_ne_f (off := 21) (t := 43) (p := 25) (by decide +kernel) (by decide +kernel) rfl c7 ?_
        refine fs_aload_n (k := 0) (p := 26) (by decide +kernel) rfl rfl ?_
        refine fs_gfr (idx := 15) (ci := 5) (j := 1) (p := 29) (by decide +kernel) rfl (by decide +kernel) fo_6 (fr_a6_1) ?_
        refine fs_iload_n (k := 3) (p := 30) (by decide +kernel) rfl rfl ?_
        obtain ⟨v8, w9, h⟩ := fx_bd h
        refine fs_iaload (p := 31) (by decide +kernel) rfl w9 ?_
        by_cases c11 : ¬ v8 = 0
        · rw [if_pos c11] at h
          refine fs_if_ne_t (off := 12) (t := 43) (by decide +kernel) (by decide +kernel) c11 ?_
          exact fe_48_43 hd ih _ _ _ _ _ h
        · rw [if_neg c11] at h
          refine fs_if_ne_f (off := 12) (t := 43) (p := 34) (by decide +kernel) (by decide +kernel) rfl c11 ?_
          refine fs_aload_n (k := 0) (p := 35) (by decide +kernel) rfl rfl ?_
          refine fs_bipush (n := 8) (p := 37) (by decide +kernel) rfl kb_8 ?_
          refine fs_iload_n (k := 2) (p := 38) (by decide +kernel) rfl rfl ?_
          refine fs_iadd (p := 39) (by decide +kernel) rfl ?_
          refine fs_iload_n (k := 1) (p := 40) (by decide +kernel) rfl rfl ?_
          obtain ⟨q13, w12, h⟩ := fx_bd h
          refine fs_callV (idx := 94) (mj := 47) (ci := 5) (na := 2) (mx := 3) (p := 43) (args := [.ref 6, .int ((8 : Int32) + x2), .int x1]) (rest := []) (al2 := [some (.ref 6), some (.int ((8 : Int32) + x2)), some (.int x1)]) (by decide +kernel) rfl (by decide +kernel) fo_6 rfl rfl rfl rfl rfl rfl rfl (by omega) (fun d' hd' => fe_47 (by omega) w12) rfl ?_
          exact fe_48_43 hd ih _ _ _ _ _ h
def fm_48 (x1 : Int32) (σ : fx_S) : Option (fx_S) :=
  fm_48_2 100000 x1 (0 : Int32) σ
theorem fe_48 {d : Nat} (hd : 1 ≤ d) {x1 : Int32} {σ : fx_S} {q : fx_S} (h : fm_48 x1 σ = some q) : fx_E none 48 d 0 [some (.ref 6), some (.int x1), none, none] [] σ none q := by
  unfold fm_48 at h
  refine fs_iconst (n := 0) (p := 1) (by decide +kernel) rfl kc_0 ?_
  refine fs_istore_n (k := 2) (p := 2) (M := 4) (al' := [some (.ref 6), some (.int x1), some (.int (0 : Int32)), none]) (by decide +kernel) rfl mx_48 rfl rfl ?_
  exact fe_48_2 hd 100000 _ _ _ _ _ h

/-! ZoneShares$Rounder.spreadColumn(I)V -/
theorem mx_49 : iv_mx 49 = 4 := by decide +kernel
theorem rt_49 : iv_rt 49 = none := by decide +kernel
def fm_49_69 (k_27 : Int32 → Int32 → fx_S → Option (fx_S)) (x1 : Int32) (x2 : Int32) (σ : fx_S) : Option (fx_S) :=
  k_27 x1 (x2 + (1 : Int32)) σ
theorem fe_49_69 {d : Nat} (hd : 1 ≤ d) {k_27 : Int32 → Int32 → fx_S → Option (fx_S)} (hk_27 : ∀ (x1 : Int32) (x2 : Int32) (o3 : Option Value) (σ : fx_S) (q : fx_S), k_27 x1 x2 σ = some q → fx_E none 49 d 27 [some (.ref 6), some (.int x1), some (.int x2), o3] [] σ none q) (x1 : Int32) (x2 : Int32) (o3 : Option Value) (σ : fx_S) (q : fx_S) (h : fm_49_69 k_27  x1 x2 σ = some q) : fx_E none 49 d 69 [some (.ref 6), some (.int x1), some (.int x2), o3] [] σ none q := by
  unfold fm_49_69 at h
  refine fs_iinc (k := 2) (n := 1) (p := 72) (M := 4) (al' := [some (.ref 6), some (.int x1), some (.int (x2 + (1 : Int32))), o3]) (by decide +kernel) rfl kc_1 mx_49 rfl rfl rfl ?_
  refine fs_goto (off := -45) (p := 27) (by decide +kernel) (by decide +kernel) ?_
  exact hk_27 _ _ _ _ _ h
def fm_49_27 : Nat → Int32 → Int32 → fx_S → Option (fx_S)
  | 0, _, _, _ => none
  | n + 1, x1, x2, σ =>
    if (8 : Int32) ≤ x2 then (
      some σ) else (
      (fx_ld σ 7 ((x2 * (9 : Int32)) + x1)).bind fun v3 =>
      if ¬ v3 = (1 : Int32) then (
        fm_49_69 (fm_49_27 n) x1 x2 σ) else (
        (fx_ld σ 8 ((x2 * (9 : Int32)) + x1)).bind fun v8 =>
        if ¬ v8 = (1 : Int32) then (
          fm_49_69 (fm_49_27 n) x1 x2 σ) else (
          (fm_47 x2 ((8 : Int32) + x1) σ).bind fun q13 =>
          fm_49_69 (fm_49_27 n) x1 x2 q13)))
theorem fe_49_27 {d : Nat} (hd : 1 ≤ d) : ∀ (n : Nat) (x1 : Int32) (x2 : Int32) (o3 : Option Value) (σ : fx_S) (q : fx_S), fm_49_27 n x1 x2 σ = some q → fx_E none 49 d 27 [some (.ref 6), some (.int x1), some (.int x2), o3] [] σ none q := by
  intro n
  induction n with
  | zero =>
    intro x1 x2 o3 σ q  h
    rw [fm_49_27] at h
    exact fx_no h
  | succ n ih =>
    intro x1 x2 o3 σ q  h
    rw [fm_49_27] at h
    refine fs_iload_n (k := 2) (p := 28) (by decide +kernel) rfl rfl ?_
    refine fs_bipush (n := 8) (p := 30) (by decide +kernel) rfl kb_8 ?_
    by_cases c2 : (8 : Int32) ≤ x2
    · rw [if_pos c2] at h
      refine fs_icmp_ge_t (off := 45) (t := 75) (by decide +kernel) (by decide +kernel) c2 ?_
      have h := Option.some.inj h
      subst h
      exact fs_ret (by decide +kernel) rt_49
    · rw [if_neg c2] at h
      refine fs_icmp_ge_f (off := 45) (t := 75) (p := 33) (by decide +kernel) (by decide +kernel) rfl c2 ?_
      refine fs_iload_n (k := 2) (p := 34) (by decide +kernel) rfl rfl ?_
      refine fs_bipush (n := 9) (p := 36) (by decide +kernel) rfl kb_9 ?_
      refine fs_imul (p := 37) (by decide +kernel) rfl ?_
      refine fs_iload_n (k := 1) (p := 38) (by decide +kernel) rfl rfl ?_
      refine fs_iadd (p := 39) (by decide +kernel) rfl ?_
      refine fs_istore_n (k := 3) (p := 40) (M := 4) (al' := [some (.ref 6), some (.int x1), some (.int x2), some (.int ((x2 * (9 : Int32)) + x1))]) (by decide +kernel) rfl mx_49 rfl rfl ?_
      refine fs_aload_n (k := 0) (p := 41) (by decide +kernel) rfl rfl ?_
      refine fs_gfr (idx := 11) (ci := 5) (j := 0) (p := 44) (by decide +kernel) rfl (by decide +kernel) fo_6 (fr_a6_0) ?_
      refine fs_iload_n (k := 3) (p := 45) (by decide +kernel) rfl rfl ?_
      obtain ⟨v3, w4, h⟩ := fx_bd h
      refine fs_iaload (p := 46) (by decide +kernel) rfl w4 ?_
      refine fs_iconst (n := 1) (p := 47) (by decide +kernel) rfl kc_1 ?_
      by_cases c7 : ¬ v3 = (1 : Int32)
      · rw [if_pos c7] at h
        refine fs_icmp_ne_t (off := 22) (t := 69) (by decide +kernel) (by decide +kernel) c7 ?_
        exact fe_49_69 hd ih _ _ _ _ _ h
      · rw [if_neg c7] at h
        refine fs_icmp_ne_f (off := 22) (t := 69) (p := 50) (by decide +kernel) (by decide +kernel) rfl c7 ?_
        refine fs_aload_n (k := 0) (p := 51) (by decide +kernel) rfl rfl ?_
        refine fs_gfr (idx := 15) (ci := 5) (j := 1) (p := 54) (by decide +kernel) rfl (by decide +kernel) fo_6 (fr_a6_1) ?_
        refine fs_iload_n (k := 3) (p := 55) (by decide +kernel) rfl rfl ?_
        obtain ⟨v8, w9, h⟩ := fx_bd h
        refine fs_iaload (p := 56) (by decide +kernel) rfl w9 ?_
        refine fs_iconst (n := 1) (p := 57) (by decide +kernel) rfl kc_1 ?_
        by_cases c11 : ¬ v8 = (1 : Int32)
        · rw [if_pos c11] at h
          refine fs_icmp_ne_t (off := 12) (t := 69) (by decide +kernel) (by decide +kernel) c11 ?_
          exact fe_49_69 hd ih _ _ _ _ _ h
        · rw [if_neg c11] at h
          refine fs_icmp_ne_f (off := 12) (t := 69) (p := 60) (by decide +kernel) (by decide +kernel) rfl c11 ?_
          refine fs_aload_n (k := 0) (p := 61) (by decide +kernel) rfl rfl ?_
          refine fs_iload_n (k := 2) (p := 62) (by decide +kernel) rfl rfl ?_
          refine fs_bipush (n := 8) (p := 64) (by decide +kernel) rfl kb_8 ?_
          refine fs_iload_n (k := 1) (p := 65) (by decide +kernel) rfl rfl ?_
          refine fs_iadd (p := 66) (by decide +kernel) rfl ?_
          obtain ⟨q13, w12, h⟩ := fx_bd h
          refine fs_callV (idx := 94) (mj := 47) (ci := 5) (na := 2) (mx := 3) (p := 69) (args := [.ref 6, .int x2, .int ((8 : Int32) + x1)]) (rest := []) (al2 := [some (.ref 6), some (.int x2), some (.int ((8 : Int32) + x1))]) (by decide +kernel) rfl (by decide +kernel) fo_6 rfl rfl rfl rfl rfl rfl rfl (by omega) (fun d' hd' => fe_47 (by omega) w12) rfl ?_
          exact fe_49_69 hd ih _ _ _ _ _ h
def fm_49_25 (x1 : Int32) (σ : fx_S) : Option (fx_S) :=
  fm_49_27 100000 x1 (0 : Int32) σ
theorem fe_49_25 {d : Nat} (hd : 1 ≤ d) (x1 : Int32) (σ : fx_S) (q : fx_S) (h : fm_49_25  x1 σ = some q) : fx_E none 49 d 25 [some (.ref 6), some (.int x1), none, none] [] σ none q := by
  unfold fm_49_25 at h
  refine fs_iconst (n := 0) (p := 26) (by decide +kernel) rfl kc_0 ?_
  refine fs_istore_n (k := 2) (p := 27) (M := 4) (al' := [some (.ref 6), some (.int x1), some (.int (0 : Int32)), none]) (by decide +kernel) rfl mx_49 rfl rfl ?_
  exact fe_49_27 hd 100000 _ _ _ _ _ h
def fm_49 (x1 : Int32) (σ : fx_S) : Option (fx_S) :=
  (fx_ld σ 11 x1).bind fun v37 =>
  (fx_ld σ 10 x1).bind fun v40 =>
  if v40 ≤ v37 then (
    fm_49_25 x1 σ) else (
    (fm_47 (17 : Int32) ((8 : Int32) + x1) σ).bind fun q46 =>
    fm_49_25 x1 q46)
theorem fe_49 {d : Nat} (hd : 1 ≤ d) {x1 : Int32} {σ : fx_S} {q : fx_S} (h : fm_49 x1 σ = some q) : fx_E none 49 d 0 [some (.ref 6), some (.int x1), none, none] [] σ none q := by
  unfold fm_49 at h
  refine fs_aload_n (k := 0) (p := 1) (by decide +kernel) rfl rfl ?_
  refine fs_gfr (idx := 24) (ci := 5) (j := 4) (p := 4) (by decide +kernel) rfl (by decide +kernel) fo_6 (fr_a6_4) ?_
  refine fs_iload_n (k := 1) (p := 5) (by decide +kernel) rfl rfl ?_
  obtain ⟨v37, w38, h⟩ := fx_bd h
  refine fs_iaload (p := 6) (by decide +kernel) rfl w38 ?_
  refine fs_aload_n (k := 0) (p := 7) (by decide +kernel) rfl rfl ?_
  refine fs_gfr (idx := 21) (ci := 5) (j := 3) (p := 10) (by decide +kernel) rfl (by decide +kernel) fo_6 (fr_a6_3) ?_
  refine fs_iload_n (k := 1) (p := 11) (by decide +kernel) rfl rfl ?_
  obtain ⟨v40, w41, h⟩ := fx_bd h
  refine fs_iaload (p := 12) (by decide +kernel) rfl w41 ?_
  by_cases c44 : v40 ≤ v37
  · rw [if_pos c44] at h
    refine fs_icmp_ge_t (off := 13) (t := 25) (by decide +kernel) (by decide +kernel) c44 ?_
    exact fe_49_25 hd _ _ _ h
  · rw [if_neg c44] at h
    refine fs_icmp_ge_f (off := 13) (t := 25) (p := 15) (by decide +kernel) (by decide +kernel) rfl c44 ?_
    refine fs_aload_n (k := 0) (p := 16) (by decide +kernel) rfl rfl ?_
    refine fs_bipush (n := 17) (p := 18) (by decide +kernel) rfl kb_17 ?_
    refine fs_bipush (n := 8) (p := 20) (by decide +kernel) rfl kb_8 ?_
    refine fs_iload_n (k := 1) (p := 21) (by decide +kernel) rfl rfl ?_
    refine fs_iadd (p := 22) (by decide +kernel) rfl ?_
    obtain ⟨q46, w45, h⟩ := fx_bd h
    refine fs_callV (idx := 94) (mj := 47) (ci := 5) (na := 2) (mx := 3) (p := 25) (args := [.ref 6, .int (17 : Int32), .int ((8 : Int32) + x1)]) (rest := []) (al2 := [some (.ref 6), some (.int (17 : Int32)), some (.int ((8 : Int32) + x1))]) (by decide +kernel) rfl (by decide +kernel) fo_6 rfl rfl rfl rfl rfl rfl rfl (by omega) (fun d' hd' => fe_47 (by omega) w45) rfl ?_
    exact fe_49_25 hd _ _ _ h

/-! ZoneShares$Rounder.spreadHub()V -/
theorem mx_50 : iv_mx 50 = 2 := by decide +kernel
theorem rt_50 : iv_rt 50 = none := by decide +kernel
def fm_50_33 (k_2 : Int32 → fx_S → Option (fx_S)) (x1 : Int32) (σ : fx_S) : Option (fx_S) :=
  k_2 (x1 + (1 : Int32)) σ
theorem fe_50_33 {d : Nat} (hd : 1 ≤ d) {k_2 : Int32 → fx_S → Option (fx_S)} (hk_2 : ∀ (x1 : Int32) (σ : fx_S) (q : fx_S), k_2 x1 σ = some q → fx_E none 50 d 2 [some (.ref 6), some (.int x1)] [] σ none q) (x1 : Int32) (σ : fx_S) (q : fx_S) (h : fm_50_33 k_2  x1 σ = some q) : fx_E none 50 d 33 [some (.ref 6), some (.int x1)] [] σ none q := by
  unfold fm_50_33 at h
  refine fs_iinc (k := 1) (n := 1) (p := 36) (M := 2) (al' := [some (.ref 6), some (.int (x1 + (1 : Int32)))]) (by decide +kernel) rfl kc_1 mx_50 rfl rfl rfl ?_
  refine fs_goto (off := -34) (p := 2) (by decide +kernel) (by decide +kernel) ?_
  exact hk_2 _ _ _ h
def fm_50_2 : Nat → Int32 → fx_S → Option (fx_S)
  | 0, _, _ => none
  | n + 1, x1, σ =>
    if (9 : Int32) ≤ x1 then (
      some σ) else (
      (fx_ld σ 11 x1).bind fun v3 =>
      (fx_ld σ 9 x1).bind fun v6 =>
      if v3 ≤ v6 then (
        fm_50_33 (fm_50_2 n) x1 σ) else (
        (fm_47 ((8 : Int32) + x1) (17 : Int32) σ).bind fun q12 =>
        fm_50_33 (fm_50_2 n) x1 q12))
theorem fe_50_2 {d : Nat} (hd : 1 ≤ d) : ∀ (n : Nat) (x1 : Int32) (σ : fx_S) (q : fx_S), fm_50_2 n x1 σ = some q → fx_E none 50 d 2 [some (.ref 6), some (.int x1)] [] σ none q := by
  intro n
  induction n with
  | zero =>
    intro x1 σ q  h
    rw [fm_50_2] at h
    exact fx_no h
  | succ n ih =>
    intro x1 σ q  h
    rw [fm_50_2] at h
    refine fs_iload_n (k := 1) (p := 3) (by decide +kernel) rfl rfl ?_
    refine fs_bipush (n := 9) (p := 5) (by decide +kernel) rfl kb_9 ?_
    by_cases c2 : (9 : Int32) ≤ x1
    · rw [if_pos c2] at h
      refine fs_icmp_ge_t (off := 34) (t := 39) (by decide +kernel) (by decide +kernel) c2 ?_
      have h := Option.some.inj h
      subst h
      exact fs_ret (by decide +kernel) rt_50
    · rw [if_neg c2] at h
      refine fs_icmp_ge_f (off := 34) (t := 39) (p := 8) (by decide +kernel) (by decide +kernel) rfl c2 ?_
      refine fs_aload_n (k := 0) (p := 9) (by decide +kernel) rfl rfl ?_
      refine fs_gfr (idx := 24) (ci := 5) (j := 4) (p := 12) (by decide +kernel) rfl (by decide +kernel) fo_6 (fr_a6_4) ?_
      refine fs_iload_n (k := 1) (p := 13) (by decide +kernel) rfl rfl ?_
      obtain ⟨v3, w4, h⟩ := fx_bd h
      refine fs_iaload (p := 14) (by decide +kernel) rfl w4 ?_
      refine fs_aload_n (k := 0) (p := 15) (by decide +kernel) rfl rfl ?_
      refine fs_gfr (idx := 18) (ci := 5) (j := 2) (p := 18) (by decide +kernel) rfl (by decide +kernel) fo_6 (fr_a6_2) ?_
      refine fs_iload_n (k := 1) (p := 19) (by decide +kernel) rfl rfl ?_
      obtain ⟨v6, w7, h⟩ := fx_bd h
      refine fs_iaload (p := 20) (by decide +kernel) rfl w7 ?_
      by_cases c10 : v3 ≤ v6
      · rw [if_pos c10] at h
        refine fs_icmp_le_t (off := 13) (t := 33) (by decide +kernel) (by decide +kernel) c10 ?_
        exact fe_50_33 hd ih _ _ _ h
      · rw [if_neg c10] at h
        refine fs_icmp_le_f (off := 13) (t := 33) (p := 23) (by decide +kernel) (by decide +kernel) rfl c10 ?_
        refine fs_aload_n (k := 0) (p := 24) (by decide +kernel) rfl rfl ?_
        refine fs_bipush (n := 8) (p := 26) (by decide +kernel) rfl kb_8 ?_
        refine fs_iload_n (k := 1) (p := 27) (by decide +kernel) rfl rfl ?_
        refine fs_iadd (p := 28) (by decide +kernel) rfl ?_
        refine fs_bipush (n := 17) (p := 30) (by decide +kernel) rfl kb_17 ?_
        obtain ⟨q12, w11, h⟩ := fx_bd h
        refine fs_callV (idx := 94) (mj := 47) (ci := 5) (na := 2) (mx := 3) (p := 33) (args := [.ref 6, .int ((8 : Int32) + x1), .int (17 : Int32)]) (rest := []) (al2 := [some (.ref 6), some (.int ((8 : Int32) + x1)), some (.int (17 : Int32))]) (by decide +kernel) rfl (by decide +kernel) fo_6 rfl rfl rfl rfl rfl rfl rfl (by omega) (fun d' hd' => fe_47 (by omega) w11) rfl ?_
        exact fe_50_33 hd ih _ _ _ h
def fm_50 (σ : fx_S) : Option (fx_S) :=
  fm_50_2 100000 (0 : Int32) σ
theorem fe_50 {d : Nat} (hd : 1 ≤ d) {σ : fx_S} {q : fx_S} (h : fm_50 σ = some q) : fx_E none 50 d 0 [some (.ref 6), none] [] σ none q := by
  unfold fm_50 at h
  refine fs_iconst (n := 0) (p := 1) (by decide +kernel) rfl kc_0 ?_
  refine fs_istore_n (k := 1) (p := 2) (M := 2) (al' := [some (.ref 6), some (.int (0 : Int32))]) (by decide +kernel) rfl mx_50 rfl rfl ?_
  exact fe_50_2 hd 100000 _ _ _ h

/-! ZoneShares$Rounder.turnStep(II)V -/
theorem mx_52 : iv_mx 52 = 3 := by decide +kernel
theorem rt_52 : iv_rt 52 = none := by decide +kernel
def fm_52 (x1 : Int32) (x2 : Int32) (σ : fx_S) : Option (fx_S) :=
  if (8 : Int32) ≤ x1 then (
    if (8 : Int32) ≤ x2 then (
      if ¬ x2 = (17 : Int32) then (
        (fx_ld σ 11 (x2 - (8 : Int32))).bind fun v27 =>
        (fx_st σ 11 (x2 - (8 : Int32)) (v27 - (1 : Int32))).bind fun t30 =>
        some t30) else (
        (fx_ld σ 11 (x1 - (8 : Int32))).bind fun v32 =>
        (fx_st σ 11 (x1 - (8 : Int32)) (v32 + (1 : Int32))).bind fun t35 =>
        some t35)) else (
      (fx_st σ 8 (((x2 * (9 : Int32)) + x1) - (8 : Int32)) (0 : Int32)).bind fun t37 =>
      some t37)) else (
    (fx_st σ 8 (((x1 * (9 : Int32)) + x2) - (8 : Int32)) (1 : Int32)).bind fun t40 =>
    some t40)
theorem fe_52 {d : Nat} (hd : 0 ≤ d) {x1 : Int32} {x2 : Int32} {σ : fx_S} {q : fx_S} (h : fm_52 x1 x2 σ = some q) : fx_E none 52 d 0 [some (.ref 6), some (.int x1), some (.int x2)] [] σ none q := by
  unfold fm_52 at h
  refine fs_iload_n (k := 1) (p := 1) (by decide +kernel) rfl rfl ?_
  refine fs_bipush (n := 8) (p := 3) (by decide +kernel) rfl kb_8 ?_
  by_cases c23 : (8 : Int32) ≤ x1
  · rw [if_pos c23] at h
    refine fs_icmp_ge_t (off := 21) (t := 24) (by decide +kernel) (by decide +kernel) c23 ?_
    refine fs_iload_n (k := 2) (p := 25) (by decide +kernel) rfl rfl ?_
    refine fs_bipush (n := 8) (p := 27) (by decide +kernel) rfl kb_8 ?_
    by_cases c25 : (8 : Int32) ≤ x2
    · rw [if_pos c25] at h
      refine fs_icmp_ge_t (off := 21) (t := 48) (by decide +kernel) (by decide +kernel) c25 ?_
      refine fs_iload_n (k := 2) (p := 49) (by decide +kernel) rfl rfl ?_
      refine fs_bipush (n := 17) (p := 51) (by decide +kernel) rfl kb_17 ?_
      by_cases c26 : ¬ x2 = (17 : Int32)
      · rw [if_pos c26] at h
        refine fs_icmp_ne_t (off := 19) (t := 70) (by decide +kernel) (by decide +kernel) c26 ?_
        refine fs_aload_n (k := 0) (p := 71) (by decide +kernel) rfl rfl ?_
        refine fs_gfr (idx := 24) (ci := 5) (j := 4) (p := 74) (by decide +kernel) rfl (by decide +kernel) fo_6 (fr_a6_4) ?_
        refine fs_iload_n (k := 2) (p := 75) (by decide +kernel) rfl rfl ?_
        refine fs_bipush (n := 8) (p := 77) (by decide +kernel) rfl kb_8 ?_
        refine fs_isub (p := 78) (by decide +kernel) rfl ?_
        refine fs_dup2 (p := 79) (by decide +kernel) rfl rfl rfl ?_
        obtain ⟨v27, w28, h⟩ := fx_bd h
        refine fs_iaload (p := 80) (by decide +kernel) rfl w28 ?_
        refine fs_iconst (n := 1) (p := 81) (by decide +kernel) rfl kc_1 ?_
        refine fs_isub (p := 82) (by decide +kernel) rfl ?_
        obtain ⟨t30, w31, h⟩ := fx_bd h
        refine fs_iastore (p := 83) (by decide +kernel) rfl w31 ?_
        have h := Option.some.inj h
        subst h
        exact fs_ret (by decide +kernel) rt_52
      · rw [if_neg c26] at h
        refine fs_icmp_ne_f (off := 19) (t := 70) (p := 54) (by decide +kernel) (by decide +kernel) rfl c26 ?_
        refine fs_aload_n (k := 0) (p := 55) (by decide +kernel) rfl rfl ?_
        refine fs_gfr (idx := 24) (ci := 5) (j := 4) (p := 58) (by decide +kernel) rfl (by decide +kernel) fo_6 (fr_a6_4) ?_
        refine fs_iload_n (k := 1) (p := 59) (by decide +kernel) rfl rfl ?_
        refine fs_bipush (n := 8) (p := 61) (by decide +kernel) rfl kb_8 ?_
        refine fs_isub (p := 62) (by decide +kernel) rfl ?_
        refine fs_dup2 (p := 63) (by decide +kernel) rfl rfl rfl ?_
        obtain ⟨v32, w33, h⟩ := fx_bd h
        refine fs_iaload (p := 64) (by decide +kernel) rfl w33 ?_
        refine fs_iconst (n := 1) (p := 65) (by decide +kernel) rfl kc_1 ?_
        refine fs_iadd (p := 66) (by decide +kernel) rfl ?_
        obtain ⟨t35, w36, h⟩ := fx_bd h
        refine fs_iastore (p := 67) (by decide +kernel) rfl w36 ?_
        refine fs_goto (off := 16) (p := 83) (by decide +kernel) (by decide +kernel) ?_
        have h := Option.some.inj h
        subst h
        exact fs_ret (by decide +kernel) rt_52
    · rw [if_neg c25] at h
      refine fs_icmp_ge_f (off := 21) (t := 48) (p := 30) (by decide +kernel) (by decide +kernel) rfl c25 ?_
      refine fs_aload_n (k := 0) (p := 31) (by decide +kernel) rfl rfl ?_
      refine fs_gfr (idx := 15) (ci := 5) (j := 1) (p := 34) (by decide +kernel) rfl (by decide +kernel) fo_6 (fr_a6_1) ?_
      refine fs_iload_n (k := 2) (p := 35) (by decide +kernel) rfl rfl ?_
      refine fs_bipush (n := 9) (p := 37) (by decide +kernel) rfl kb_9 ?_
      refine fs_imul (p := 38) (by decide +kernel) rfl ?_
      refine fs_iload_n (k := 1) (p := 39) (by decide +kernel) rfl rfl ?_
      refine fs_iadd (p := 40) (by decide +kernel) rfl ?_
      refine fs_bipush (n := 8) (p := 42) (by decide +kernel) rfl kb_8 ?_
      refine fs_isub (p := 43) (by decide +kernel) rfl ?_
      refine fs_iconst (n := 0) (p := 44) (by decide +kernel) rfl kc_0 ?_
      obtain ⟨t37, w38, h⟩ := fx_bd h
      refine fs_iastore (p := 45) (by decide +kernel) rfl w38 ?_
      refine fs_goto (off := 38) (p := 83) (by decide +kernel) (by decide +kernel) ?_
      have h := Option.some.inj h
      subst h
      exact fs_ret (by decide +kernel) rt_52
  · rw [if_neg c23] at h
    refine fs_icmp_ge_f (off := 21) (t := 24) (p := 6) (by decide +kernel) (by decide +kernel) rfl c23 ?_
    refine fs_aload_n (k := 0) (p := 7) (by decide +kernel) rfl rfl ?_
    refine fs_gfr (idx := 15) (ci := 5) (j := 1) (p := 10) (by decide +kernel) rfl (by decide +kernel) fo_6 (fr_a6_1) ?_
    refine fs_iload_n (k := 1) (p := 11) (by decide +kernel) rfl rfl ?_
    refine fs_bipush (n := 9) (p := 13) (by decide +kernel) rfl kb_9 ?_
    refine fs_imul (p := 14) (by decide +kernel) rfl ?_
    refine fs_iload_n (k := 2) (p := 15) (by decide +kernel) rfl rfl ?_
    refine fs_iadd (p := 16) (by decide +kernel) rfl ?_
    refine fs_bipush (n := 8) (p := 18) (by decide +kernel) rfl kb_8 ?_
    refine fs_isub (p := 19) (by decide +kernel) rfl ?_
    refine fs_iconst (n := 1) (p := 20) (by decide +kernel) rfl kc_1 ?_
    obtain ⟨t40, w41, h⟩ := fx_bd h
    refine fs_iastore (p := 21) (by decide +kernel) rfl w41 ?_
    refine fs_goto (off := 62) (p := 83) (by decide +kernel) (by decide +kernel) ?_
    have h := Option.some.inj h
    subst h
    exact fs_ret (by decide +kernel) rt_52

/-! ZoneShares$State.copy(LZoneShares$State;)V -/
theorem mx_54 : iv_mx 54 = 2 := by decide +kernel
theorem rt_54 : iv_rt 54 = none := by decide +kernel
def fm_54 (x0 : Nat) (x1 : Nat) (σ : fx_S) : Option (fx_S) :=
  if fx_oc x0 6 = true ∧ fx_oc x1 6 = true then (
  (fx_cpy σ (x1 + 1) (0 : Int32) (x0 + 1) (0 : Int32) (288 : Int32)).bind fun t9 =>
  (fx_cpy t9 (x1 + 2) (0 : Int32) (x0 + 2) (0 : Int32) (27 : Int32)).bind fun t11 =>
  (fx_cpy t11 (x1 + 3) (0 : Int32) (x0 + 3) (0 : Int32) (12 : Int32)).bind fun t13 =>
  (fx_cpy t13 (x1 + 4) (0 : Int32) (x0 + 4) (0 : Int32) (8 : Int32)).bind fun t15 =>
  some (fx_w1 (fx_w1 (fx_w1 (fx_w1 (fx_w1 t15 x0 4 (t15.1 x1 4)) x0 5 ((fx_w1 t15 x0 4 (t15.1 x1 4)).1 x1 5)) x0 6 ((fx_w1 (fx_w1 t15 x0 4 (t15.1 x1 4)) x0 5 ((fx_w1 t15 x0 4 (t15.1 x1 4)).1 x1 5)).1 x1 6)) x0 7 ((fx_w1 (fx_w1 (fx_w1 t15 x0 4 (t15.1 x1 4)) x0 5 ((fx_w1 t15 x0 4 (t15.1 x1 4)).1 x1 5)) x0 6 ((fx_w1 (fx_w1 t15 x0 4 (t15.1 x1 4)) x0 5 ((fx_w1 t15 x0 4 (t15.1 x1 4)).1 x1 5)).1 x1 6)).1 x1 7)) x0 8 ((fx_w1 (fx_w1 (fx_w1 (fx_w1 t15 x0 4 (t15.1 x1 4)) x0 5 ((fx_w1 t15 x0 4 (t15.1 x1 4)).1 x1 5)) x0 6 ((fx_w1 (fx_w1 t15 x0 4 (t15.1 x1 4)) x0 5 ((fx_w1 t15 x0 4 (t15.1 x1 4)).1 x1 5)).1 x1 6)) x0 7 ((fx_w1 (fx_w1 (fx_w1 t15 x0 4 (t15.1 x1 4)) x0 5 ((fx_w1 t15 x0 4 (t15.1 x1 4)).1 x1 5)) x0 6 ((fx_w1 (fx_w1 t15 x0 4 (t15.1 x1 4)) x0 5 ((fx_w1 t15 x0 4 (t15.1 x1 4)).1 x1 5)).1 x1 6)).1 x1 7)).1 x1 8))) else none
theorem fe_54 {d : Nat} (hd : 0 ≤ d) {x0 : Nat} {x1 : Nat} {σ : fx_S} {q : fx_S} (h : fm_54 x0 x1 σ = some q) : fx_E none 54 d 0 [some (.ref x0), some (.ref x1)] [] σ none q := by
  unfold fm_54 at h
  obtain ⟨gg, h⟩ := fx_gd h
  obtain ⟨g0, g1⟩ := gg
  refine fs_aload_n (k := 1) (p := 1) (by decide +kernel) rfl rfl ?_
  refine fs_gfr (idx := 9) (ci := 6) (j := 0) (p := 4) (by decide +kernel) rfl (by decide +kernel) g1 (fr_6_0 g1) ?_
  refine fs_iconst (n := 0) (p := 5) (by decide +kernel) rfl kc_0 ?_
  refine fs_aload_n (k := 0) (p := 6) (by decide +kernel) rfl rfl ?_
  refine fs_gfr (idx := 9) (ci := 6) (j := 0) (p := 9) (by decide +kernel) rfl (by decide +kernel) g0 (fr_6_0 g0) ?_
  refine fs_iconst (n := 0) (p := 10) (by decide +kernel) rfl kc_0 ?_
  refine fs_sipush (n := 288) (p := 13) (by decide +kernel) rfl ks_288 ?_
  obtain ⟨t9, w10, h⟩ := fx_bd h
  refine fs_cpy (idx := 30) (p := 16) (by decide +kernel) rfl (by decide +kernel) rfl w10 ?_
  refine fs_aload_n (k := 1) (p := 17) (by decide +kernel) rfl rfl ?_
  refine fs_gfr (idx := 15) (ci := 6) (j := 1) (p := 20) (by decide +kernel) rfl (by decide +kernel) g1 (fr_6_1 g1) ?_
  refine fs_iconst (n := 0) (p := 21) (by decide +kernel) rfl kc_0 ?_
  refine fs_aload_n (k := 0) (p := 22) (by decide +kernel) rfl rfl ?_
  refine fs_gfr (idx := 15) (ci := 6) (j := 1) (p := 25) (by decide +kernel) rfl (by decide +kernel) g0 (fr_6_1 g0) ?_
  refine fs_iconst (n := 0) (p := 26) (by decide +kernel) rfl kc_0 ?_
  refine fs_bipush (n := 27) (p := 28) (by decide +kernel) rfl kb_27 ?_
  obtain ⟨t11, w12, h⟩ := fx_bd h
  refine fs_cpy (idx := 30) (p := 31) (by decide +kernel) rfl (by decide +kernel) rfl w12 ?_
  refine fs_aload_n (k := 1) (p := 32) (by decide +kernel) rfl rfl ?_
  refine fs_gfr (idx := 18) (ci := 6) (j := 2) (p := 35) (by decide +kernel) rfl (by decide +kernel) g1 (fr_6_2 g1) ?_
  refine fs_iconst (n := 0) (p := 36) (by decide +kernel) rfl kc_0 ?_
  refine fs_aload_n (k := 0) (p := 37) (by decide +kernel) rfl rfl ?_
  refine fs_gfr (idx := 18) (ci := 6) (j := 2) (p := 40) (by decide +kernel) rfl (by decide +kernel) g0 (fr_6_2 g0) ?_
  refine fs_iconst (n := 0) (p := 41) (by decide +kernel) rfl kc_0 ?_
  refine fs_bipush (n := 12) (p := 43) (by decide +kernel) rfl kb_12 ?_
  obtain ⟨t13, w14, h⟩ := fx_bd h
  refine fs_cpy (idx := 30) (p := 46) (by decide +kernel) rfl (by decide +kernel) rfl w14 ?_
  refine fs_aload_n (k := 1) (p := 47) (by decide +kernel) rfl rfl ?_
  refine fs_gfr (idx := 21) (ci := 6) (j := 3) (p := 50) (by decide +kernel) rfl (by decide +kernel) g1 (fr_6_3 g1) ?_
  refine fs_iconst (n := 0) (p := 51) (by decide +kernel) rfl kc_0 ?_
  refine fs_aload_n (k := 0) (p := 52) (by decide +kernel) rfl rfl ?_
  refine fs_gfr (idx := 21) (ci := 6) (j := 3) (p := 55) (by decide +kernel) rfl (by decide +kernel) g0 (fr_6_3 g0) ?_
  refine fs_iconst (n := 0) (p := 56) (by decide +kernel) rfl kc_0 ?_
  refine fs_bipush (n := 8) (p := 58) (by decide +kernel) rfl kb_8 ?_
  obtain ⟨t15, w16, h⟩ := fx_bd h
  refine fs_cpy (idx := 30) (p := 61) (by decide +kernel) rfl (by decide +kernel) rfl w16 ?_
  refine fs_aload_n (k := 0) (p := 62) (by decide +kernel) rfl rfl ?_
  refine fs_aload_n (k := 1) (p := 63) (by decide +kernel) rfl rfl ?_
  refine fs_gfi (idx := 36) (ci := 6) (j := 4) (p := 66) (by decide +kernel) rfl (by decide +kernel) g1 ?_
  refine fs_pfi (idx := 36) (ci := 6) (j := 4) (p := 69) (by decide +kernel) rfl (by decide +kernel) (by decide +kernel) g0 (fx_oki _ (by decide +kernel)) ?_
  refine fs_aload_n (k := 0) (p := 70) (by decide +kernel) rfl rfl ?_
  refine fs_aload_n (k := 1) (p := 71) (by decide +kernel) rfl rfl ?_
  refine fs_gfi (idx := 40) (ci := 6) (j := 5) (p := 74) (by decide +kernel) rfl (by decide +kernel) g1 ?_
  refine fs_pfi (idx := 40) (ci := 6) (j := 5) (p := 77) (by decide +kernel) rfl (by decide +kernel) (by decide +kernel) g0 (fx_oki _ (by decide +kernel)) ?_
  refine fs_aload_n (k := 0) (p := 78) (by decide +kernel) rfl rfl ?_
  refine fs_aload_n (k := 1) (p := 79) (by decide +kernel) rfl rfl ?_
  refine fs_gfi (idx := 43) (ci := 6) (j := 6) (p := 82) (by decide +kernel) rfl (by decide +kernel) g1 ?_
  refine fs_pfi (idx := 43) (ci := 6) (j := 6) (p := 85) (by decide +kernel) rfl (by decide +kernel) (by decide +kernel) g0 (fx_oki _ (by decide +kernel)) ?_
  refine fs_aload_n (k := 0) (p := 86) (by decide +kernel) rfl rfl ?_
  refine fs_aload_n (k := 1) (p := 87) (by decide +kernel) rfl rfl ?_
  refine fs_gfi (idx := 46) (ci := 6) (j := 7) (p := 90) (by decide +kernel) rfl (by decide +kernel) g1 ?_
  refine fs_pfi (idx := 46) (ci := 6) (j := 7) (p := 93) (by decide +kernel) rfl (by decide +kernel) (by decide +kernel) g0 (fx_oki _ (by decide +kernel)) ?_
  refine fs_aload_n (k := 0) (p := 94) (by decide +kernel) rfl rfl ?_
  refine fs_aload_n (k := 1) (p := 95) (by decide +kernel) rfl rfl ?_
  refine fs_gfi (idx := 49) (ci := 6) (j := 8) (p := 98) (by decide +kernel) rfl (by decide +kernel) g1 ?_
  refine fs_pfi (idx := 49) (ci := 6) (j := 8) (p := 101) (by decide +kernel) rfl (by decide +kernel) (by decide +kernel) g0 (fx_oki _ (by decide +kernel)) ?_
  have h := Option.some.inj h
  subst h
  exact fs_ret (by decide +kernel) rt_54

/-! ZoneShares$State.putLayer(ILZoneShares$LayerText;)V -/
theorem mx_55 : iv_mx 55 = 3 := by decide +kernel
theorem rt_55 : iv_rt 55 = none := by decide +kernel
def fm_55_27 (x0 : Nat) (x1 : Int32) (σ : fx_S) : Option (fx_S) :=
  (fx_cpy (fx_w1 (fx_w1 (fx_w1 σ x0 4 (σ.1 58 1)) x0 5 ((fx_w1 σ x0 4 (σ.1 58 1)).1 58 2)) x0 6 (((fx_w1 (fx_w1 σ x0 4 (σ.1 58 1)) x0 5 ((fx_w1 σ x0 4 (σ.1 58 1)).1 58 2)).1 x0 6) ||| ((1 : Int32) <<< (x1 &&& 31)))) 59 (0 : Int32) (x0 + 1) (x1 * (96 : Int32)) (96 : Int32)).bind fun t1 =>
  some t1
theorem fe_55_27 {d : Nat} (hd : 0 ≤ d) (x0 : Nat) (x1 : Int32) (σ : fx_S) (q : fx_S) (g0 : fx_oc x0 6 = true) (h : fm_55_27  x0 x1 σ = some q) : fx_E none 55 d 27 [some (.ref x0), some (.int x1), some (.ref 58)] [] σ none q := by
  unfold fm_55_27 at h
  refine fs_aload_n (k := 0) (p := 28) (by decide +kernel) rfl rfl ?_
  refine fs_aload_n (k := 2) (p := 29) (by decide +kernel) rfl rfl ?_
  refine fs_gfi (idx := 52) (ci := 4) (j := 1) (p := 32) (by decide +kernel) rfl (by decide +kernel) fo_58 ?_
  refine fs_pfi (idx := 36) (ci := 6) (j := 4) (p := 35) (by decide +kernel) rfl (by decide +kernel) (by decide +kernel) g0 (fx_oki _ (by decide +kernel)) ?_
  refine fs_aload_n (k := 0) (p := 36) (by decide +kernel) rfl rfl ?_
  refine fs_aload_n (k := 2) (p := 37) (by decide +kernel) rfl rfl ?_
  refine fs_gfi (idx := 55) (ci := 4) (j := 2) (p := 40) (by decide +kernel) rfl (by decide +kernel) fo_58 ?_
  refine fs_pfi (idx := 40) (ci := 6) (j := 5) (p := 43) (by decide +kernel) rfl (by decide +kernel) (by decide +kernel) g0 (fx_oki _ (by decide +kernel)) ?_
  refine fs_aload_n (k := 0) (p := 44) (by decide +kernel) rfl rfl ?_
  refine fs_aload_n (k := 0) (p := 45) (by decide +kernel) rfl rfl ?_
  refine fs_gfi (idx := 43) (ci := 6) (j := 6) (p := 48) (by decide +kernel) rfl (by decide +kernel) g0 ?_
  refine fs_iconst (n := 1) (p := 49) (by decide +kernel) rfl kc_1 ?_
  refine fs_iload_n (k := 1) (p := 50) (by decide +kernel) rfl rfl ?_
  refine fs_ishl (p := 51) (by decide +kernel) rfl ?_
  refine fs_ior (p := 52) (by decide +kernel) rfl ?_
  refine fs_pfi (idx := 43) (ci := 6) (j := 6) (p := 55) (by decide +kernel) rfl (by decide +kernel) (by decide +kernel) g0 (fx_oki _ (by decide +kernel)) ?_
  refine fs_aload_n (k := 2) (p := 56) (by decide +kernel) rfl rfl ?_
  refine fs_gfr (idx := 56) (ci := 4) (j := 0) (p := 59) (by decide +kernel) rfl (by decide +kernel) fo_58 (fr_a58_0) ?_
  refine fs_iconst (n := 0) (p := 60) (by decide +kernel) rfl kc_0 ?_
  refine fs_aload_n (k := 0) (p := 61) (by decide +kernel) rfl rfl ?_
  refine fs_gfr (idx := 9) (ci := 6) (j := 0) (p := 64) (by decide +kernel) rfl (by decide +kernel) g0 (fr_6_0 g0) ?_
  refine fs_iload_n (k := 1) (p := 65) (by decide +kernel) rfl rfl ?_
  refine fs_bipush (n := 96) (p := 67) (by decide +kernel) rfl kb_96 ?_
  refine fs_imul (p := 68) (by decide +kernel) rfl ?_
  refine fs_bipush (n := 96) (p := 70) (by decide +kernel) rfl kb_96 ?_
  obtain ⟨t1, w2, h⟩ := fx_bd h
  refine fs_cpy (idx := 30) (p := 73) (by decide +kernel) rfl (by decide +kernel) rfl w2 ?_
  have h := Option.some.inj h
  subst h
  exact fs_ret (by decide +kernel) rt_55
def fm_55_22 (x0 : Nat) (x1 : Int32) (σ : fx_S) : Option (fx_S) :=
  fm_55_27 x0 x1 (fx_w1 σ x0 6 (0 : Int32))
theorem fe_55_22 {d : Nat} (hd : 0 ≤ d) (x0 : Nat) (x1 : Int32) (σ : fx_S) (q : fx_S) (g0 : fx_oc x0 6 = true) (h : fm_55_22  x0 x1 σ = some q) : fx_E none 55 d 22 [some (.ref x0), some (.int x1), some (.ref 58)] [] σ none q := by
  unfold fm_55_22 at h
  refine fs_aload_n (k := 0) (p := 23) (by decide +kernel) rfl rfl ?_
  refine fs_iconst (n := 0) (p := 24) (by decide +kernel) rfl kc_0 ?_
  refine fs_pfi (idx := 43) (ci := 6) (j := 6) (p := 27) (by decide +kernel) rfl (by decide +kernel) (by decide +kernel) g0 (fx_oki _ (by decide +kernel)) ?_
  exact fe_55_27 hd _ _ _ _ g0 h
def fm_55 (x0 : Nat) (x1 : Int32) (σ : fx_S) : Option (fx_S) :=
  if fx_oc x0 6 = true then (
  if ¬ (σ.1 58 1) = (σ.1 x0 4) then (
    fm_55_22 x0 x1 σ) else (
    if (σ.1 58 2) = (σ.1 x0 5) then (
      fm_55_27 x0 x1 σ) else (
      fm_55_22 x0 x1 σ))) else none
theorem fe_55 {d : Nat} (hd : 0 ≤ d) {x0 : Nat} {x1 : Int32} {σ : fx_S} {q : fx_S} (h : fm_55 x0 x1 σ = some q) : fx_E none 55 d 0 [some (.ref x0), some (.int x1), some (.ref 58)] [] σ none q := by
  unfold fm_55 at h
  obtain ⟨g0, h⟩ := fx_gd h
  refine fs_aload_n (k := 2) (p := 1) (by decide +kernel) rfl rfl ?_
  refine fs_gfi (idx := 52) (ci := 4) (j := 1) (p := 4) (by decide +kernel) rfl (by decide +kernel) fo_58 ?_
  refine fs_aload_n (k := 0) (p := 5) (by decide +kernel) rfl rfl ?_
  refine fs_gfi (idx := 36) (ci := 6) (j := 4) (p := 8) (by decide +kernel) rfl (by decide +kernel) g0 ?_
  by_cases c12 : ¬ (σ.1 58 1) = (σ.1 x0 4)
  · rw [if_pos c12] at h
    refine fs_icmp_ne_t (off := 14) (t := 22) (by decide +kernel) (by decide +kernel) c12 ?_
    exact fe_55_22 hd _ _ _ _ g0 h
  · rw [if_neg c12] at h
    refine fs_icmp_ne_f (off := 14) (t := 22) (p := 11) (by decide +kernel) (by decide +kernel) rfl c12 ?_
    refine fs_aload_n (k := 2) (p := 12) (by decide +kernel) rfl rfl ?_
    refine fs_gfi (idx := 55) (ci := 4) (j := 2) (p := 15) (by decide +kernel) rfl (by decide +kernel) fo_58 ?_
    refine fs_aload_n (k := 0) (p := 16) (by decide +kernel) rfl rfl ?_
    refine fs_gfi (idx := 40) (ci := 6) (j := 5) (p := 19) (by decide +kernel) rfl (by decide +kernel) g0 ?_
    by_cases c15 : (σ.1 58 2) = (σ.1 x0 5)
    · rw [if_pos c15] at h
      refine fs_icmp_eq_t (off := 8) (t := 27) (by decide +kernel) (by decide +kernel) c15 ?_
      exact fe_55_27 hd _ _ _ _ g0 h
    · rw [if_neg c15] at h
      refine fs_icmp_eq_f (off := 8) (t := 27) (p := 22) (by decide +kernel) (by decide +kernel) rfl c15 ?_
      exact fe_55_22 hd _ _ _ _ g0 h

/-! ZoneShares$State.has(I)Z -/
theorem mx_56 : iv_mx 56 = 2 := by decide +kernel
theorem rt_56 : iv_rt 56 = some .boolean := by decide +kernel
def fm_56 (x0 : Nat) (x1 : Int32) (σ : fx_S) : Option (Bool × fx_S) :=
  if fx_oc x0 6 = true then (
  if ¬ (((σ.1 x0 6) >>> (x1 &&& 31)) &&& (1 : Int32)) = (1 : Int32) then (
    some (false, σ)) else (
    some (true, σ))) else none
theorem fe_56 {d : Nat} (hd : 0 ≤ d) {x0 : Nat} {x1 : Int32} {σ : fx_S} {q : Bool × fx_S} (h : fm_56 x0 x1 σ = some q) : fx_E none 56 d 0 [some (.ref x0), some (.int x1)] [] σ (some (.int (fx_b q.1))) q.2 := by
  unfold fm_56 at h
  obtain ⟨g0, h⟩ := fx_gd h
  refine fs_aload_n (k := 0) (p := 1) (by decide +kernel) rfl rfl ?_
  refine fs_gfi (idx := 43) (ci := 6) (j := 6) (p := 4) (by decide +kernel) rfl (by decide +kernel) g0 ?_
  refine fs_iload_n (k := 1) (p := 5) (by decide +kernel) rfl rfl ?_
  refine fs_ishr (p := 6) (by decide +kernel) rfl ?_
  refine fs_iconst (n := 1) (p := 7) (by decide +kernel) rfl kc_1 ?_
  refine fs_iand (p := 8) (by decide +kernel) rfl ?_
  refine fs_iconst (n := 1) (p := 9) (by decide +kernel) rfl kc_1 ?_
  by_cases c4 : ¬ (((σ.1 x0 6) >>> (x1 &&& 31)) &&& (1 : Int32)) = (1 : Int32)
  · rw [if_pos c4] at h
    refine fs_icmp_ne_t (off := 7) (t := 16) (by decide +kernel) (by decide +kernel) c4 ?_
    refine fs_iconst (n := 0) (p := 17) (by decide +kernel) rfl kc_0 ?_
    have h := Option.some.inj h
    subst h
    exact fs_zret (b := false) (by decide +kernel) rt_56
  · rw [if_neg c4] at h
    refine fs_icmp_ne_f (off := 7) (t := 16) (p := 12) (by decide +kernel) (by decide +kernel) rfl c4 ?_
    refine fs_iconst (n := 1) (p := 13) (by decide +kernel) rfl kc_1 ?_
    refine fs_goto (off := 4) (p := 17) (by decide +kernel) (by decide +kernel) ?_
    have h := Option.some.inj h
    subst h
    exact fs_zret (b := true) (by decide +kernel) rt_56

/-! ZoneShares$State.whole()Z -/
theorem mx_57 : iv_mx 57 = 1 := by decide +kernel
theorem rt_57 : iv_rt 57 = some .boolean := by decide +kernel
def fm_57 (x0 : Nat) (σ : fx_S) : Option (Bool × fx_S) :=
  if fx_oc x0 6 = true then (
  if ¬ (σ.1 x0 6) = (7 : Int32) then (
    some (false, σ)) else (
    some (true, σ))) else none
theorem fe_57 {d : Nat} (hd : 0 ≤ d) {x0 : Nat} {σ : fx_S} {q : Bool × fx_S} (h : fm_57 x0 σ = some q) : fx_E none 57 d 0 [some (.ref x0)] [] σ (some (.int (fx_b q.1))) q.2 := by
  unfold fm_57 at h
  obtain ⟨g0, h⟩ := fx_gd h
  refine fs_aload_n (k := 0) (p := 1) (by decide +kernel) rfl rfl ?_
  refine fs_gfi (idx := 43) (ci := 6) (j := 6) (p := 4) (by decide +kernel) rfl (by decide +kernel) g0 ?_
  refine fs_bipush (n := 7) (p := 6) (by decide +kernel) rfl kb_7 ?_
  by_cases c4 : ¬ (σ.1 x0 6) = (7 : Int32)
  · rw [if_pos c4] at h
    refine fs_icmp_ne_t (off := 7) (t := 13) (by decide +kernel) (by decide +kernel) c4 ?_
    refine fs_iconst (n := 0) (p := 14) (by decide +kernel) rfl kc_0 ?_
    have h := Option.some.inj h
    subst h
    exact fs_zret (b := false) (by decide +kernel) rt_57
  · rw [if_neg c4] at h
    refine fs_icmp_ne_f (off := 7) (t := 13) (p := 9) (by decide +kernel) (by decide +kernel) rfl c4 ?_
    refine fs_iconst (n := 1) (p := 10) (by decide +kernel) rfl kc_1 ?_
    refine fs_goto (off := 4) (p := 14) (by decide +kernel) (by decide +kernel) ?_
    have h := Option.some.inj h
    subst h
    exact fs_zret (b := true) (by decide +kernel) rt_57

/-! ZoneShares$State.cells()I -/
theorem mx_58 : iv_mx 58 = 1 := by decide +kernel
theorem rt_58 : iv_rt 58 = some .int := by decide +kernel
def fm_58 (x0 : Nat) (σ : fx_S) : Option (Int32 × fx_S) :=
  if fx_oc x0 6 = true then (
  some (((σ.1 x0 4) * (σ.1 x0 5)), σ)) else none
theorem fe_58 {d : Nat} (hd : 0 ≤ d) {x0 : Nat} {σ : fx_S} {q : Int32 × fx_S} (h : fm_58 x0 σ = some q) : fx_E none 58 d 0 [some (.ref x0)] [] σ (some (.int q.1)) q.2 := by
  unfold fm_58 at h
  obtain ⟨g0, h⟩ := fx_gd h
  refine fs_aload_n (k := 0) (p := 1) (by decide +kernel) rfl rfl ?_
  refine fs_gfi (idx := 36) (ci := 6) (j := 4) (p := 4) (by decide +kernel) rfl (by decide +kernel) g0 ?_
  refine fs_aload_n (k := 0) (p := 5) (by decide +kernel) rfl rfl ?_
  refine fs_gfi (idx := 40) (ci := 6) (j := 5) (p := 8) (by decide +kernel) rfl (by decide +kernel) g0 ?_
  refine fs_imul (p := 9) (by decide +kernel) rfl ?_
  have h := Option.some.inj h
  subst h
  exact fs_iret (by decide +kernel) rt_58

/-! ZoneShares$State.hasCell(II)Z -/
theorem mx_59 : iv_mx 59 = 3 := by decide +kernel
theorem rt_59 : iv_rt 59 = some .boolean := by decide +kernel
def fm_59 (x0 : Nat) (x1 : Int32) (x2 : Int32) (σ : fx_S) : Option (Bool × fx_S) :=
  if fx_oc x0 6 = true then (
  if x1 < 0 then (
    some (false, σ)) else (
    if (σ.1 x0 4) ≤ x1 then (
      some (false, σ)) else (
      if x2 < 0 then (
        some (false, σ)) else (
        if (σ.1 x0 5) ≤ x2 then (
          some (false, σ)) else (
          some (true, σ)))))) else none
theorem fe_59 {d : Nat} (hd : 0 ≤ d) {x0 : Nat} {x1 : Int32} {x2 : Int32} {σ : fx_S} {q : Bool × fx_S} (h : fm_59 x0 x1 x2 σ = some q) : fx_E none 59 d 0 [some (.ref x0), some (.int x1), some (.int x2)] [] σ (some (.int (fx_b q.1))) q.2 := by
  unfold fm_59 at h
  obtain ⟨g0, h⟩ := fx_gd h
  refine fs_iload_n (k := 1) (p := 1) (by decide +kernel) rfl rfl ?_
  by_cases c10 : x1 < 0
  · rw [if_pos c10] at h
    refine fs_if_lt_t (off := 27) (t := 28) (by decide +kernel) (by decide +kernel) c10 ?_
    refine fs_iconst (n := 0) (p := 29) (by decide +kernel) rfl kc_0 ?_
    have h := Option.some.inj h
    subst h
    exact fs_zret (b := false) (by decide +kernel) rt_59
  · rw [if_neg c10] at h
    refine fs_if_lt_f (off := 27) (t := 28) (p := 4) (by decide +kernel) (by decide +kernel) rfl c10 ?_
    refine fs_iload_n (k := 1) (p := 5) (by decide +kernel) rfl rfl ?_
    refine fs_aload_n (k := 0) (p := 6) (by decide +kernel) rfl rfl ?_
    refine fs_gfi (idx := 36) (ci := 6) (j := 4) (p := 9) (by decide +kernel) rfl (by decide +kernel) g0 ?_
    by_cases c12 : (σ.1 x0 4) ≤ x1
    · rw [if_pos c12] at h
      refine fs_icmp_ge_t (off := 19) (t := 28) (by decide +kernel) (by decide +kernel) c12 ?_
      refine fs_iconst (n := 0) (p := 29) (by decide +kernel) rfl kc_0 ?_
      have h := Option.some.inj h
      subst h
      exact fs_zret (b := false) (by decide +kernel) rt_59
    · rw [if_neg c12] at h
      refine fs_icmp_ge_f (off := 19) (t := 28) (p := 12) (by decide +kernel) (by decide +kernel) rfl c12 ?_
      refine fs_iload_n (k := 2) (p := 13) (by decide +kernel) rfl rfl ?_
      by_cases c14 : x2 < 0
      · rw [if_pos c14] at h
        refine fs_if_lt_t (off := 15) (t := 28) (by decide +kernel) (by decide +kernel) c14 ?_
        refine fs_iconst (n := 0) (p := 29) (by decide +kernel) rfl kc_0 ?_
        have h := Option.some.inj h
        subst h
        exact fs_zret (b := false) (by decide +kernel) rt_59
      · rw [if_neg c14] at h
        refine fs_if_lt_f (off := 15) (t := 28) (p := 16) (by decide +kernel) (by decide +kernel) rfl c14 ?_
        refine fs_iload_n (k := 2) (p := 17) (by decide +kernel) rfl rfl ?_
        refine fs_aload_n (k := 0) (p := 18) (by decide +kernel) rfl rfl ?_
        refine fs_gfi (idx := 40) (ci := 6) (j := 5) (p := 21) (by decide +kernel) rfl (by decide +kernel) g0 ?_
        by_cases c16 : (σ.1 x0 5) ≤ x2
        · rw [if_pos c16] at h
          refine fs_icmp_ge_t (off := 7) (t := 28) (by decide +kernel) (by decide +kernel) c16 ?_
          refine fs_iconst (n := 0) (p := 29) (by decide +kernel) rfl kc_0 ?_
          have h := Option.some.inj h
          subst h
          exact fs_zret (b := false) (by decide +kernel) rt_59
        · rw [if_neg c16] at h
          refine fs_icmp_ge_f (off := 7) (t := 28) (p := 24) (by decide +kernel) (by decide +kernel) rfl c16 ?_
          refine fs_iconst (n := 1) (p := 25) (by decide +kernel) rfl kc_1 ?_
          refine fs_goto (off := 4) (p := 29) (by decide +kernel) (by decide +kernel) ?_
          have h := Option.some.inj h
          subst h
          exact fs_zret (b := true) (by decide +kernel) rt_59

/-! ZoneShares$State.at(II)I -/
theorem mx_60 : iv_mx 60 = 3 := by decide +kernel
theorem rt_60 : iv_rt 60 = some .int := by decide +kernel
def fm_60 (x0 : Nat) (x1 : Int32) (x2 : Int32) (σ : fx_S) : Option (Int32 × fx_S) :=
  if fx_oc x0 6 = true then (
  (fx_ld σ (x0 + 1) ((x1 * (96 : Int32)) + x2)).bind fun v4 =>
  some (v4, σ)) else none
theorem fe_60 {d : Nat} (hd : 0 ≤ d) {x0 : Nat} {x1 : Int32} {x2 : Int32} {σ : fx_S} {q : Int32 × fx_S} (h : fm_60 x0 x1 x2 σ = some q) : fx_E none 60 d 0 [some (.ref x0), some (.int x1), some (.int x2)] [] σ (some (.int q.1)) q.2 := by
  unfold fm_60 at h
  obtain ⟨g0, h⟩ := fx_gd h
  refine fs_aload_n (k := 0) (p := 1) (by decide +kernel) rfl rfl ?_
  refine fs_gfr (idx := 9) (ci := 6) (j := 0) (p := 4) (by decide +kernel) rfl (by decide +kernel) g0 (fr_6_0 g0) ?_
  refine fs_iload_n (k := 1) (p := 5) (by decide +kernel) rfl rfl ?_
  refine fs_bipush (n := 96) (p := 7) (by decide +kernel) rfl kb_96 ?_
  refine fs_imul (p := 8) (by decide +kernel) rfl ?_
  refine fs_iload_n (k := 2) (p := 9) (by decide +kernel) rfl rfl ?_
  refine fs_iadd (p := 10) (by decide +kernel) rfl ?_
  obtain ⟨v4, w5, h⟩ := fx_bd h
  refine fs_iaload (p := 11) (by decide +kernel) rfl w5 ?_
  have h := Option.some.inj h
  subst h
  exact fs_iret (by decide +kernel) rt_60

/-! ZoneShares$State.weightAt(II)I -/
theorem mx_61 : iv_mx 61 = 3 := by decide +kernel
theorem rt_61 : iv_rt 61 = some .int := by decide +kernel
def fm_61 (x0 : Nat) (x1 : Int32) (x2 : Int32) (σ : fx_S) : Option (Int32 × fx_S) :=
  if fx_oc x0 6 = true then (
  (fm_60 x0 (2 : Int32) x2 σ).bind fun q7 =>
  (fx_ld q7.2 (x0 + 3) ((x1 * (4 : Int32)) + q7.1)).bind fun v8 =>
  some (v8, q7.2)) else none
theorem fe_61 {d : Nat} (hd : 1 ≤ d) {x0 : Nat} {x1 : Int32} {x2 : Int32} {σ : fx_S} {q : Int32 × fx_S} (h : fm_61 x0 x1 x2 σ = some q) : fx_E none 61 d 0 [some (.ref x0), some (.int x1), some (.int x2)] [] σ (some (.int q.1)) q.2 := by
  unfold fm_61 at h
  obtain ⟨g0, h⟩ := fx_gd h
  refine fs_aload_n (k := 0) (p := 1) (by decide +kernel) rfl rfl ?_
  refine fs_gfr (idx := 18) (ci := 6) (j := 2) (p := 4) (by decide +kernel) rfl (by decide +kernel) g0 (fr_6_2 g0) ?_
  refine fs_iload_n (k := 1) (p := 5) (by decide +kernel) rfl rfl ?_
  refine fs_iconst (n := 4) (p := 6) (by decide +kernel) rfl kc_4 ?_
  refine fs_imul (p := 7) (by decide +kernel) rfl ?_
  refine fs_aload_n (k := 0) (p := 8) (by decide +kernel) rfl rfl ?_
  refine fs_iconst (n := 2) (p := 9) (by decide +kernel) rfl kc_2 ?_
  refine fs_iload_n (k := 2) (p := 10) (by decide +kernel) rfl rfl ?_
  obtain ⟨q7, w6, h⟩ := fx_bd h
  refine fs_callV (idx := 57) (mj := 60) (ci := 6) (na := 2) (mx := 3) (p := 13) (args := [.ref x0, .int (2 : Int32), .int x2]) (rest := [.int (x1 * (4 : Int32)), .ref (x0 + 3)]) (al2 := [some (.ref x0), some (.int (2 : Int32)), some (.int x2)]) (by decide +kernel) rfl (by decide +kernel) g0 rfl rfl rfl rfl rfl rfl rfl (by omega) (fun d' hd' => fe_60 (by omega) w6) rfl ?_
  refine fs_iadd (p := 14) (by decide +kernel) rfl ?_
  obtain ⟨v8, w9, h⟩ := fx_bd h
  refine fs_iaload (p := 15) (by decide +kernel) rfl w9 ?_
  have h := Option.some.inj h
  subst h
  exact fs_iret (by decide +kernel) rt_61

/-! ZoneShares$State.cellsOf(II)I -/
theorem mx_62 : iv_mx 62 = 6 := by decide +kernel
theorem rt_62 : iv_rt 62 = some .int := by decide +kernel
def fm_62_43 (k_23 : Nat → Int32 → Int32 → Int32 → Int32 → Int32 → fx_S → Option (Int32 × fx_S)) (x0 : Nat) (x1 : Int32) (x2 : Int32) (x3 : Int32) (x4 : Int32) (x5 : Int32) (σ : fx_S) : Option (Int32 × fx_S) :=
  k_23 x0 x1 x2 x3 x4 (x5 + (1 : Int32)) σ
theorem fe_62_43 {d : Nat} (hd : 1 ≤ d) {k_23 : Nat → Int32 → Int32 → Int32 → Int32 → Int32 → fx_S → Option (Int32 × fx_S)} (hk_23 : ∀ (x0 : Nat) (x1 : Int32) (x2 : Int32) (x3 : Int32) (x4 : Int32) (x5 : Int32) (σ : fx_S) (q : Int32 × fx_S) (g0 : fx_oc x0 6 = true), k_23 x0 x1 x2 x3 x4 x5 σ = some q → fx_E none 62 d 23 [some (.ref x0), some (.int x1), some (.int x2), some (.int x3), some (.int x4), some (.int x5)] [] σ (some (.int q.1)) q.2) (x0 : Nat) (x1 : Int32) (x2 : Int32) (x3 : Int32) (x4 : Int32) (x5 : Int32) (σ : fx_S) (q : Int32 × fx_S) (g0 : fx_oc x0 6 = true) (h : fm_62_43 k_23  x0 x1 x2 x3 x4 x5 σ = some q) : fx_E none 62 d 43 [some (.ref x0), some (.int x1), some (.int x2), some (.int x3), some (.int x4), some (.int x5)] [] σ (some (.int q.1)) q.2 := by
  unfold fm_62_43 at h
  refine fs_iinc (k := 5) (n := 1) (p := 46) (M := 6) (al' := [some (.ref x0), some (.int x1), some (.int x2), some (.int x3), some (.int x4), some (.int (x5 + (1 : Int32)))]) (by decide +kernel) rfl kc_1 mx_62 rfl rfl rfl ?_
  refine fs_goto (off := -23) (p := 23) (by decide +kernel) (by decide +kernel) ?_
  exact hk_23 _ _ _ _ _ _ _ _ g0 h
def fm_62_23 : Nat → Nat → Int32 → Int32 → Int32 → Int32 → Int32 → fx_S → Option (Int32 × fx_S)
  | 0, _, _, _, _, _, _, _ => none
  | n + 1, x0, x1, x2, x3, x4, x5, σ =>
    if x3 ≤ x5 then (
      some (x4, σ)) else (
      (fm_60 x0 x1 x5 σ).bind fun q5 =>
      if ¬ q5.1 = x2 then (
        fm_62_43 (fm_62_23 n) x0 x1 x2 x3 x4 x5 q5.2) else (
        fm_62_43 (fm_62_23 n) x0 x1 x2 x3 (x4 + (1 : Int32)) x5 q5.2))
theorem fe_62_23 {d : Nat} (hd : 1 ≤ d) : ∀ (n : Nat) (x0 : Nat) (x1 : Int32) (x2 : Int32) (x3 : Int32) (x4 : Int32) (x5 : Int32) (σ : fx_S) (q : Int32 × fx_S) (g0 : fx_oc x0 6 = true), fm_62_23 n x0 x1 x2 x3 x4 x5 σ = some q → fx_E none 62 d 23 [some (.ref x0), some (.int x1), some (.int x2), some (.int x3), some (.int x4), some (.int x5)] [] σ (some (.int q.1)) q.2 := by
  intro n
  induction n with
  | zero =>
    intro x0 x1 x2 x3 x4 x5 σ q g0 h
    rw [fm_62_23] at h
    exact fx_no h
  | succ n ih =>
    intro x0 x1 x2 x3 x4 x5 σ q g0 h
    rw [fm_62_23] at h
    refine fs_iload (k := 5) (p := 25) (by decide +kernel) rfl rfl ?_
    refine fs_iload_n (k := 3) (p := 26) (by decide +kernel) rfl rfl ?_
    by_cases c3 : x3 ≤ x5
    · rw [if_pos c3] at h
      refine fs_icmp_ge_t (off := 23) (t := 49) (by decide +kernel) (by decide +kernel) c3 ?_
      refine fs_iload (k := 4) (p := 51) (by decide +kernel) rfl rfl ?_
      have h := Option.some.inj h
      subst h
      exact fs_iret (by decide +kernel) rt_62
    · rw [if_neg c3] at h
      refine fs_icmp_ge_f (off := 23) (t := 49) (p := 29) (by decide +kernel) (by decide +kernel) rfl c3 ?_
      refine fs_aload_n (k := 0) (p := 30) (by decide +kernel) rfl rfl ?_
      refine fs_iload_n (k := 1) (p := 31) (by decide +kernel) rfl rfl ?_
      refine fs_iload (k := 5) (p := 33) (by decide +kernel) rfl rfl ?_
      obtain ⟨q5, w4, h⟩ := fx_bd h
      refine fs_callV (idx := 57) (mj := 60) (ci := 6) (na := 2) (mx := 3) (p := 36) (args := [.ref x0, .int x1, .int x5]) (rest := []) (al2 := [some (.ref x0), some (.int x1), some (.int x5)]) (by decide +kernel) rfl (by decide +kernel) g0 rfl rfl rfl rfl rfl rfl rfl (by omega) (fun d' hd' => fe_60 (by omega) w4) rfl ?_
      refine fs_iload_n (k := 2) (p := 37) (by decide +kernel) rfl rfl ?_
      by_cases c8 : ¬ q5.1 = x2
      · rw [if_pos c8] at h
        refine fs_icmp_ne_t (off := 6) (t := 43) (by decide +kernel) (by decide +kernel) c8 ?_
        exact fe_62_43 hd ih _ _ _ _ _ _ _ _ g0 h
      · rw [if_neg c8] at h
        refine fs_icmp_ne_f (off := 6) (t := 43) (p := 40) (by decide +kernel) (by decide +kernel) rfl c8 ?_
        refine fs_iinc (k := 4) (n := 1) (p := 43) (M := 6) (al' := [some (.ref x0), some (.int x1), some (.int x2), some (.int x3), some (.int (x4 + (1 : Int32))), some (.int x5)]) (by decide +kernel) rfl kc_1 mx_62 rfl rfl rfl ?_
        exact fe_62_43 hd ih _ _ _ _ _ _ _ _ g0 h
def fm_62_16 (x0 : Nat) (x1 : Int32) (x2 : Int32) (s0 : Int32) (σ : fx_S) : Option (Int32 × fx_S) :=
  fm_62_23 100000 x0 x1 x2 s0 (0 : Int32) (0 : Int32) σ
theorem fe_62_16 {d : Nat} (hd : 1 ≤ d) (x0 : Nat) (x1 : Int32) (x2 : Int32) (s0 : Int32) (σ : fx_S) (q : Int32 × fx_S) (g0 : fx_oc x0 6 = true) (h : fm_62_16  x0 x1 x2 s0 σ = some q) : fx_E none 62 d 16 [some (.ref x0), some (.int x1), some (.int x2), none, none, none] [.int s0] σ (some (.int q.1)) q.2 := by
  unfold fm_62_16 at h
  refine fs_istore_n (k := 3) (p := 17) (M := 6) (al' := [some (.ref x0), some (.int x1), some (.int x2), some (.int s0), none, none]) (by decide +kernel) rfl mx_62 rfl rfl ?_
  refine fs_iconst (n := 0) (p := 18) (by decide +kernel) rfl kc_0 ?_
  refine fs_istore (k := 4) (p := 20) (M := 6) (al' := [some (.ref x0), some (.int x1), some (.int x2), some (.int s0), some (.int (0 : Int32)), none]) (by decide +kernel) rfl mx_62 rfl rfl ?_
  refine fs_iconst (n := 0) (p := 21) (by decide +kernel) rfl kc_0 ?_
  refine fs_istore (k := 5) (p := 23) (M := 6) (al' := [some (.ref x0), some (.int x1), some (.int x2), some (.int s0), some (.int (0 : Int32)), some (.int (0 : Int32))]) (by decide +kernel) rfl mx_62 rfl rfl ?_
  exact fe_62_23 hd 100000 _ _ _ _ _ _ _ _ g0 h
def fm_62 (x0 : Nat) (x1 : Int32) (x2 : Int32) (σ : fx_S) : Option (Int32 × fx_S) :=
  if fx_oc x0 6 = true then (
  (fm_56 x0 x1 σ).bind fun q15 =>
  if (fx_b q15.1) = 0 then (
    fm_62_16 x0 x1 x2 (0 : Int32) q15.2) else (
    (fm_58 x0 q15.2).bind fun q18 =>
    fm_62_16 x0 x1 x2 q18.1 q18.2)) else none
theorem fe_62 {d : Nat} (hd : 1 ≤ d) {x0 : Nat} {x1 : Int32} {x2 : Int32} {σ : fx_S} {q : Int32 × fx_S} (h : fm_62 x0 x1 x2 σ = some q) : fx_E none 62 d 0 [some (.ref x0), some (.int x1), some (.int x2), none, none, none] [] σ (some (.int q.1)) q.2 := by
  unfold fm_62 at h
  obtain ⟨g0, h⟩ := fx_gd h
  refine fs_aload_n (k := 0) (p := 1) (by decide +kernel) rfl rfl ?_
  refine fs_iload_n (k := 1) (p := 2) (by decide +kernel) rfl rfl ?_
  obtain ⟨q15, w14, h⟩ := fx_bd h
  refine fs_callV (idx := 61) (mj := 56) (ci := 6) (na := 1) (mx := 2) (p := 5) (args := [.ref x0, .int x1]) (rest := []) (al2 := [some (.ref x0), some (.int x1)]) (by decide +kernel) rfl (by decide +kernel) g0 rfl rfl rfl rfl rfl rfl rfl (by omega) (fun d' hd' => fe_56 (by omega) w14) rfl ?_
  by_cases c16 : (fx_b q15.1) = 0
  · rw [if_pos c16] at h
    refine fs_if_eq_t (off := 10) (t := 15) (by decide +kernel) (by decide +kernel) c16 ?_
    refine fs_iconst (n := 0) (p := 16) (by decide +kernel) rfl kc_0 ?_
    exact fe_62_16 hd _ _ _ _ _ _ g0 h
  · rw [if_neg c16] at h
    refine fs_if_eq_f (off := 10) (t := 15) (p := 8) (by decide +kernel) (by decide +kernel) rfl c16 ?_
    refine fs_aload_n (k := 0) (p := 9) (by decide +kernel) rfl rfl ?_
    obtain ⟨q18, w17, h⟩ := fx_bd h
    refine fs_callV (idx := 65) (mj := 58) (ci := 6) (na := 0) (mx := 1) (p := 12) (args := [.ref x0]) (rest := []) (al2 := [some (.ref x0)]) (by decide +kernel) rfl (by decide +kernel) g0 rfl rfl rfl rfl rfl rfl rfl (by omega) (fun d' hd' => fe_58 (by omega) w17) rfl ?_
    refine fs_goto (off := 4) (p := 16) (by decide +kernel) (by decide +kernel) ?_
    exact fe_62_16 hd _ _ _ _ _ _ g0 h

/-! ZoneShares$State.kinds(II)I -/
theorem mx_63 : iv_mx 63 = 5 := by decide +kernel
theorem rt_63 : iv_rt 63 = some .int := by decide +kernel
def fm_63_24 (k_5 : Nat → Int32 → Int32 → Int32 → Int32 → fx_S → Option (Int32 × fx_S)) (x0 : Nat) (x1 : Int32) (x2 : Int32) (x3 : Int32) (x4 : Int32) (σ : fx_S) : Option (Int32 × fx_S) :=
  k_5 x0 x1 x2 x3 (x4 + (1 : Int32)) σ
theorem fe_63_24 {d : Nat} (hd : 2 ≤ d) {k_5 : Nat → Int32 → Int32 → Int32 → Int32 → fx_S → Option (Int32 × fx_S)} (hk_5 : ∀ (x0 : Nat) (x1 : Int32) (x2 : Int32) (x3 : Int32) (x4 : Int32) (σ : fx_S) (q : Int32 × fx_S) (g0 : fx_oc x0 6 = true), k_5 x0 x1 x2 x3 x4 σ = some q → fx_E none 63 d 5 [some (.ref x0), some (.int x1), some (.int x2), some (.int x3), some (.int x4)] [] σ (some (.int q.1)) q.2) (x0 : Nat) (x1 : Int32) (x2 : Int32) (x3 : Int32) (x4 : Int32) (σ : fx_S) (q : Int32 × fx_S) (g0 : fx_oc x0 6 = true) (h : fm_63_24 k_5  x0 x1 x2 x3 x4 σ = some q) : fx_E none 63 d 24 [some (.ref x0), some (.int x1), some (.int x2), some (.int x3), some (.int x4)] [] σ (some (.int q.1)) q.2 := by
  unfold fm_63_24 at h
  refine fs_iinc (k := 4) (n := 1) (p := 27) (M := 5) (al' := [some (.ref x0), some (.int x1), some (.int x2), some (.int x3), some (.int (x4 + (1 : Int32)))]) (by decide +kernel) rfl kc_1 mx_63 rfl rfl rfl ?_
  refine fs_goto (off := -22) (p := 5) (by decide +kernel) (by decide +kernel) ?_
  exact hk_5 _ _ _ _ _ _ _ g0 h
def fm_63_5 : Nat → Nat → Int32 → Int32 → Int32 → Int32 → fx_S → Option (Int32 × fx_S)
  | 0, _, _, _, _, _, _ => none
  | n + 1, x0, x1, x2, x3, x4, σ =>
    if x2 ≤ x4 then (
      some (x3, σ)) else (
      (fm_62 x0 x1 x4 σ).bind fun q5 =>
      if q5.1 ≤ 0 then (
        fm_63_24 (fm_63_5 n) x0 x1 x2 x3 x4 q5.2) else (
        fm_63_24 (fm_63_5 n) x0 x1 x2 (x3 + (1 : Int32)) x4 q5.2))
theorem fe_63_5 {d : Nat} (hd : 2 ≤ d) : ∀ (n : Nat) (x0 : Nat) (x1 : Int32) (x2 : Int32) (x3 : Int32) (x4 : Int32) (σ : fx_S) (q : Int32 × fx_S) (g0 : fx_oc x0 6 = true), fm_63_5 n x0 x1 x2 x3 x4 σ = some q → fx_E none 63 d 5 [some (.ref x0), some (.int x1), some (.int x2), some (.int x3), some (.int x4)] [] σ (some (.int q.1)) q.2 := by
  intro n
  induction n with
  | zero =>
    intro x0 x1 x2 x3 x4 σ q g0 h
    rw [fm_63_5] at h
    exact fx_no h
  | succ n ih =>
    intro x0 x1 x2 x3 x4 σ q g0 h
    rw [fm_63_5] at h
    refine fs_iload (k := 4) (p := 7) (by decide +kernel) rfl rfl ?_
    refine fs_iload_n (k := 2) (p := 8) (by decide +kernel) rfl rfl ?_
    by_cases c3 : x2 ≤ x4
    · rw [if_pos c3] at h
      refine fs_icmp_ge_t (off := 22) (t := 30) (by decide +kernel) (by decide +kernel) c3 ?_
      refine fs_iload_n (k := 3) (p := 31) (by decide +kernel) rfl rfl ?_
      have h := Option.some.inj h
      subst h
      exact fs_iret (by decide +kernel) rt_63
    · rw [if_neg c3] at h
      refine fs_icmp_ge_f (off := 22) (t := 30) (p := 11) (by decide +kernel) (by decide +kernel) rfl c3 ?_
      refine fs_aload_n (k := 0) (p := 12) (by decide +kernel) rfl rfl ?_
      refine fs_iload_n (k := 1) (p := 13) (by decide +kernel) rfl rfl ?_
      refine fs_iload (k := 4) (p := 15) (by decide +kernel) rfl rfl ?_
      obtain ⟨q5, w4, h⟩ := fx_bd h
      refine fs_callV (idx := 69) (mj := 62) (ci := 6) (na := 2) (mx := 6) (p := 18) (args := [.ref x0, .int x1, .int x4]) (rest := []) (al2 := [some (.ref x0), some (.int x1), some (.int x4), none, none, none]) (by decide +kernel) rfl (by decide +kernel) g0 rfl rfl rfl rfl rfl rfl rfl (by omega) (fun d' hd' => fe_62 (by omega) w4) rfl ?_
      by_cases c7 : q5.1 ≤ 0
      · rw [if_pos c7] at h
        refine fs_if_le_t (off := 6) (t := 24) (by decide +kernel) (by decide +kernel) c7 ?_
        exact fe_63_24 hd ih _ _ _ _ _ _ _ g0 h
      · rw [if_neg c7] at h
        refine fs_if_le_f (off := 6) (t := 24) (p := 21) (by decide +kernel) (by decide +kernel) rfl c7 ?_
        refine fs_iinc (k := 3) (n := 1) (p := 24) (M := 5) (al' := [some (.ref x0), some (.int x1), some (.int x2), some (.int (x3 + (1 : Int32))), some (.int x4)]) (by decide +kernel) rfl kc_1 mx_63 rfl rfl rfl ?_
        exact fe_63_24 hd ih _ _ _ _ _ _ _ g0 h
def fm_63 (x0 : Nat) (x1 : Int32) (x2 : Int32) (σ : fx_S) : Option (Int32 × fx_S) :=
  if fx_oc x0 6 = true then (
  fm_63_5 100000 x0 x1 x2 (0 : Int32) (0 : Int32) σ) else none
theorem fe_63 {d : Nat} (hd : 2 ≤ d) {x0 : Nat} {x1 : Int32} {x2 : Int32} {σ : fx_S} {q : Int32 × fx_S} (h : fm_63 x0 x1 x2 σ = some q) : fx_E none 63 d 0 [some (.ref x0), some (.int x1), some (.int x2), none, none] [] σ (some (.int q.1)) q.2 := by
  unfold fm_63 at h
  obtain ⟨g0, h⟩ := fx_gd h
  refine fs_iconst (n := 0) (p := 1) (by decide +kernel) rfl kc_0 ?_
  refine fs_istore_n (k := 3) (p := 2) (M := 5) (al' := [some (.ref x0), some (.int x1), some (.int x2), some (.int (0 : Int32)), none]) (by decide +kernel) rfl mx_63 rfl rfl ?_
  refine fs_iconst (n := 0) (p := 3) (by decide +kernel) rfl kc_0 ?_
  refine fs_istore (k := 4) (p := 5) (M := 5) (al' := [some (.ref x0), some (.int x1), some (.int x2), some (.int (0 : Int32)), some (.int (0 : Int32))]) (by decide +kernel) rfl mx_63 rfl rfl ?_
  exact fe_63_5 hd 100000 _ _ _ _ _ _ _ g0 h

/-! ZoneShares$State.unlikeCells()I -/
theorem mx_64 : iv_mx 64 = 4 := by decide +kernel
theorem rt_64 : iv_rt 64 = some .int := by decide +kernel
def fm_64_32 (k_9 : Nat → Int32 → Int32 → Int32 → fx_S → Option (Int32 × fx_S)) (x0 : Nat) (x1 : Int32) (x2 : Int32) (x3 : Int32) (σ : fx_S) : Option (Int32 × fx_S) :=
  k_9 x0 x1 x2 (x3 + (1 : Int32)) σ
theorem fe_64_32 {d : Nat} (hd : 1 ≤ d) {k_9 : Nat → Int32 → Int32 → Int32 → fx_S → Option (Int32 × fx_S)} (hk_9 : ∀ (x0 : Nat) (x1 : Int32) (x2 : Int32) (x3 : Int32) (σ : fx_S) (q : Int32 × fx_S) (g0 : fx_oc x0 6 = true), k_9 x0 x1 x2 x3 σ = some q → fx_E none 64 d 9 [some (.ref x0), some (.int x1), some (.int x2), some (.int x3)] [] σ (some (.int q.1)) q.2) (x0 : Nat) (x1 : Int32) (x2 : Int32) (x3 : Int32) (σ : fx_S) (q : Int32 × fx_S) (g0 : fx_oc x0 6 = true) (h : fm_64_32 k_9  x0 x1 x2 x3 σ = some q) : fx_E none 64 d 32 [some (.ref x0), some (.int x1), some (.int x2), some (.int x3)] [] σ (some (.int q.1)) q.2 := by
  unfold fm_64_32 at h
  refine fs_iinc (k := 3) (n := 1) (p := 35) (M := 4) (al' := [some (.ref x0), some (.int x1), some (.int x2), some (.int (x3 + (1 : Int32)))]) (by decide +kernel) rfl kc_1 mx_64 rfl rfl rfl ?_
  refine fs_goto (off := -26) (p := 9) (by decide +kernel) (by decide +kernel) ?_
  exact hk_9 _ _ _ _ _ _ g0 h
def fm_64_9 : Nat → Nat → Int32 → Int32 → Int32 → fx_S → Option (Int32 × fx_S)
  | 0, _, _, _, _, _ => none
  | n + 1, x0, x1, x2, x3, σ =>
    if x1 ≤ x3 then (
      some (x2, σ)) else (
      (fm_60 x0 (0 : Int32) x3 σ).bind fun q5 =>
      (fm_60 x0 (1 : Int32) x3 q5.2).bind fun q7 =>
      if q5.1 = q7.1 then (
        fm_64_32 (fm_64_9 n) x0 x1 x2 x3 q7.2) else (
        fm_64_32 (fm_64_9 n) x0 x1 (x2 + (1 : Int32)) x3 q7.2))
theorem fe_64_9 {d : Nat} (hd : 1 ≤ d) : ∀ (n : Nat) (x0 : Nat) (x1 : Int32) (x2 : Int32) (x3 : Int32) (σ : fx_S) (q : Int32 × fx_S) (g0 : fx_oc x0 6 = true), fm_64_9 n x0 x1 x2 x3 σ = some q → fx_E none 64 d 9 [some (.ref x0), some (.int x1), some (.int x2), some (.int x3)] [] σ (some (.int q.1)) q.2 := by
  intro n
  induction n with
  | zero =>
    intro x0 x1 x2 x3 σ q g0 h
    rw [fm_64_9] at h
    exact fx_no h
  | succ n ih =>
    intro x0 x1 x2 x3 σ q g0 h
    rw [fm_64_9] at h
    refine fs_iload_n (k := 3) (p := 10) (by decide +kernel) rfl rfl ?_
    refine fs_iload_n (k := 1) (p := 11) (by decide +kernel) rfl rfl ?_
    by_cases c3 : x1 ≤ x3
    · rw [if_pos c3] at h
      refine fs_icmp_ge_t (off := 27) (t := 38) (by decide +kernel) (by decide +kernel) c3 ?_
      refine fs_iload_n (k := 2) (p := 39) (by decide +kernel) rfl rfl ?_
      have h := Option.some.inj h
      subst h
      exact fs_iret (by decide +kernel) rt_64
    · rw [if_neg c3] at h
      refine fs_icmp_ge_f (off := 27) (t := 38) (p := 14) (by decide +kernel) (by decide +kernel) rfl c3 ?_
      refine fs_aload_n (k := 0) (p := 15) (by decide +kernel) rfl rfl ?_
      refine fs_iconst (n := 0) (p := 16) (by decide +kernel) rfl kc_0 ?_
      refine fs_iload_n (k := 3) (p := 17) (by decide +kernel) rfl rfl ?_
      obtain ⟨q5, w4, h⟩ := fx_bd h
      refine fs_callV (idx := 57) (mj := 60) (ci := 6) (na := 2) (mx := 3) (p := 20) (args := [.ref x0, .int (0 : Int32), .int x3]) (rest := []) (al2 := [some (.ref x0), some (.int (0 : Int32)), some (.int x3)]) (by decide +kernel) rfl (by decide +kernel) g0 rfl rfl rfl rfl rfl rfl rfl (by omega) (fun d' hd' => fe_60 (by omega) w4) rfl ?_
      refine fs_aload_n (k := 0) (p := 21) (by decide +kernel) rfl rfl ?_
      refine fs_iconst (n := 1) (p := 22) (by decide +kernel) rfl kc_1 ?_
      refine fs_iload_n (k := 3) (p := 23) (by decide +kernel) rfl rfl ?_
      obtain ⟨q7, w6, h⟩ := fx_bd h
      refine fs_callV (idx := 57) (mj := 60) (ci := 6) (na := 2) (mx := 3) (p := 26) (args := [.ref x0, .int (1 : Int32), .int x3]) (rest := [.int q5.1]) (al2 := [some (.ref x0), some (.int (1 : Int32)), some (.int x3)]) (by decide +kernel) rfl (by decide +kernel) g0 rfl rfl rfl rfl rfl rfl rfl (by omega) (fun d' hd' => fe_60 (by omega) w6) rfl ?_
      by_cases c10 : q5.1 = q7.1
      · rw [if_pos c10] at h
        refine fs_icmp_eq_t (off := 6) (t := 32) (by decide +kernel) (by decide +kernel) c10 ?_
        exact fe_64_32 hd ih _ _ _ _ _ _ g0 h
      · rw [if_neg c10] at h
        refine fs_icmp_eq_f (off := 6) (t := 32) (p := 29) (by decide +kernel) (by decide +kernel) rfl c10 ?_
        refine fs_iinc (k := 2) (n := 1) (p := 32) (M := 4) (al' := [some (.ref x0), some (.int x1), some (.int (x2 + (1 : Int32))), some (.int x3)]) (by decide +kernel) rfl kc_1 mx_64 rfl rfl rfl ?_
        exact fe_64_32 hd ih _ _ _ _ _ _ g0 h
def fm_64 (x0 : Nat) (σ : fx_S) : Option (Int32 × fx_S) :=
  if fx_oc x0 6 = true then (
  (fm_58 x0 σ).bind fun q14 =>
  fm_64_9 100000 x0 q14.1 (0 : Int32) (0 : Int32) q14.2) else none
theorem fe_64 {d : Nat} (hd : 1 ≤ d) {x0 : Nat} {σ : fx_S} {q : Int32 × fx_S} (h : fm_64 x0 σ = some q) : fx_E none 64 d 0 [some (.ref x0), none, none, none] [] σ (some (.int q.1)) q.2 := by
  unfold fm_64 at h
  obtain ⟨g0, h⟩ := fx_gd h
  refine fs_aload_n (k := 0) (p := 1) (by decide +kernel) rfl rfl ?_
  obtain ⟨q14, w13, h⟩ := fx_bd h
  refine fs_callV (idx := 65) (mj := 58) (ci := 6) (na := 0) (mx := 1) (p := 4) (args := [.ref x0]) (rest := []) (al2 := [some (.ref x0)]) (by decide +kernel) rfl (by decide +kernel) g0 rfl rfl rfl rfl rfl rfl rfl (by omega) (fun d' hd' => fe_58 (by omega) w13) rfl ?_
  refine fs_istore_n (k := 1) (p := 5) (M := 4) (al' := [some (.ref x0), some (.int q14.1), none, none]) (by decide +kernel) rfl mx_64 rfl rfl ?_
  refine fs_iconst (n := 0) (p := 6) (by decide +kernel) rfl kc_0 ?_
  refine fs_istore_n (k := 2) (p := 7) (M := 4) (al' := [some (.ref x0), some (.int q14.1), some (.int (0 : Int32)), none]) (by decide +kernel) rfl mx_64 rfl rfl ?_
  refine fs_iconst (n := 0) (p := 8) (by decide +kernel) rfl kc_0 ?_
  refine fs_istore_n (k := 3) (p := 9) (M := 4) (al' := [some (.ref x0), some (.int q14.1), some (.int (0 : Int32)), some (.int (0 : Int32))]) (by decide +kernel) rfl mx_64 rfl rfl ?_
  exact fe_64_9 hd 100000 _ _ _ _ _ _ g0 h

/-! ZoneShares$State.metBy(I)I -/
theorem mx_65 : iv_mx 65 = 5 := by decide +kernel
theorem rt_65 : iv_rt 65 = some .int := by decide +kernel
def fm_65_39 (k_10 : Nat → Int32 → Int32 → Int32 → Int32 → fx_S → Option (Int32 × fx_S)) (x0 : Nat) (x1 : Int32) (x2 : Int32) (x3 : Int32) (x4 : Int32) (σ : fx_S) : Option (Int32 × fx_S) :=
  k_10 x0 x1 x2 x3 (x4 + (1 : Int32)) σ
theorem fe_65_39 {d : Nat} (hd : 1 ≤ d) {k_10 : Nat → Int32 → Int32 → Int32 → Int32 → fx_S → Option (Int32 × fx_S)} (hk_10 : ∀ (x0 : Nat) (x1 : Int32) (x2 : Int32) (x3 : Int32) (x4 : Int32) (σ : fx_S) (q : Int32 × fx_S) (g0 : fx_oc x0 6 = true), k_10 x0 x1 x2 x3 x4 σ = some q → fx_E none 65 d 10 [some (.ref x0), some (.int x1), some (.int x2), some (.int x3), some (.int x4)] [] σ (some (.int q.1)) q.2) (x0 : Nat) (x1 : Int32) (x2 : Int32) (x3 : Int32) (x4 : Int32) (σ : fx_S) (q : Int32 × fx_S) (g0 : fx_oc x0 6 = true) (h : fm_65_39 k_10  x0 x1 x2 x3 x4 σ = some q) : fx_E none 65 d 39 [some (.ref x0), some (.int x1), some (.int x2), some (.int x3), some (.int x4)] [] σ (some (.int q.1)) q.2 := by
  unfold fm_65_39 at h
  refine fs_iinc (k := 4) (n := 1) (p := 42) (M := 5) (al' := [some (.ref x0), some (.int x1), some (.int x2), some (.int x3), some (.int (x4 + (1 : Int32)))]) (by decide +kernel) rfl kc_1 mx_65 rfl rfl rfl ?_
  refine fs_goto (off := -32) (p := 10) (by decide +kernel) (by decide +kernel) ?_
  exact hk_10 _ _ _ _ _ _ _ g0 h
def fm_65_10 : Nat → Nat → Int32 → Int32 → Int32 → Int32 → fx_S → Option (Int32 × fx_S)
  | 0, _, _, _, _, _, _ => none
  | n + 1, x0, x1, x2, x3, x4, σ =>
    if x2 ≤ x4 then (
      some (x3, σ)) else (
      (fm_60 x0 (0 : Int32) x4 σ).bind fun q5 =>
      if ¬ q5.1 = x1 then (
        fm_65_39 (fm_65_10 n) x0 x1 x2 x3 x4 q5.2) else (
        (fm_60 x0 (1 : Int32) x4 q5.2).bind fun q10 =>
        fm_65_39 (fm_65_10 n) x0 x1 x2 (x3 ||| ((1 : Int32) <<< (q10.1 &&& 31))) x4 q10.2))
theorem fe_65_10 {d : Nat} (hd : 1 ≤ d) : ∀ (n : Nat) (x0 : Nat) (x1 : Int32) (x2 : Int32) (x3 : Int32) (x4 : Int32) (σ : fx_S) (q : Int32 × fx_S) (g0 : fx_oc x0 6 = true), fm_65_10 n x0 x1 x2 x3 x4 σ = some q → fx_E none 65 d 10 [some (.ref x0), some (.int x1), some (.int x2), some (.int x3), some (.int x4)] [] σ (some (.int q.1)) q.2 := by
  intro n
  induction n with
  | zero =>
    intro x0 x1 x2 x3 x4 σ q g0 h
    rw [fm_65_10] at h
    exact fx_no h
  | succ n ih =>
    intro x0 x1 x2 x3 x4 σ q g0 h
    rw [fm_65_10] at h
    refine fs_iload (k := 4) (p := 12) (by decide +kernel) rfl rfl ?_
    refine fs_iload_n (k := 2) (p := 13) (by decide +kernel) rfl rfl ?_
    by_cases c3 : x2 ≤ x4
    · rw [if_pos c3] at h
      refine fs_icmp_ge_t (off := 32) (t := 45) (by decide +kernel) (by decide +kernel) c3 ?_
      refine fs_iload_n (k := 3) (p := 46) (by decide +kernel) rfl rfl ?_
      have h := Option.some.inj h
      subst h
      exact fs_iret (by decide +kernel) rt_65
    · rw [if_neg c3] at h
      refine fs_icmp_ge_f (off := 32) (t := 45) (p := 16) (by decide +kernel) (by decide +kernel) rfl c3 ?_
      refine fs_aload_n (k := 0) (p := 17) (by decide +kernel) rfl rfl ?_
      refine fs_iconst (n := 0) (p := 18) (by decide +kernel) rfl kc_0 ?_
      refine fs_iload (k := 4) (p := 20) (by decide +kernel) rfl rfl ?_
      obtain ⟨q5, w4, h⟩ := fx_bd h
      refine fs_callV (idx := 57) (mj := 60) (ci := 6) (na := 2) (mx := 3) (p := 23) (args := [.ref x0, .int (0 : Int32), .int x4]) (rest := []) (al2 := [some (.ref x0), some (.int (0 : Int32)), some (.int x4)]) (by decide +kernel) rfl (by decide +kernel) g0 rfl rfl rfl rfl rfl rfl rfl (by omega) (fun d' hd' => fe_60 (by omega) w4) rfl ?_
      refine fs_iload_n (k := 1) (p := 24) (by decide +kernel) rfl rfl ?_
      by_cases c8 : ¬ q5.1 = x1
      · rw [if_pos c8] at h
        refine fs_icmp_ne_t (off := 15) (t := 39) (by decide +kernel) (by decide +kernel) c8 ?_
        exact fe_65_39 hd ih _ _ _ _ _ _ _ g0 h
      · rw [if_neg c8] at h
        refine fs_icmp_ne_f (off := 15) (t := 39) (p := 27) (by decide +kernel) (by decide +kernel) rfl c8 ?_
        refine fs_iload_n (k := 3) (p := 28) (by decide +kernel) rfl rfl ?_
        refine fs_iconst (n := 1) (p := 29) (by decide +kernel) rfl kc_1 ?_
        refine fs_aload_n (k := 0) (p := 30) (by decide +kernel) rfl rfl ?_
        refine fs_iconst (n := 1) (p := 31) (by decide +kernel) rfl kc_1 ?_
        refine fs_iload (k := 4) (p := 33) (by decide +kernel) rfl rfl ?_
        obtain ⟨q10, w9, h⟩ := fx_bd h
        refine fs_callV (idx := 57) (mj := 60) (ci := 6) (na := 2) (mx := 3) (p := 36) (args := [.ref x0, .int (1 : Int32), .int x4]) (rest := [.int (1 : Int32), .int x3]) (al2 := [some (.ref x0), some (.int (1 : Int32)), some (.int x4)]) (by decide +kernel) rfl (by decide +kernel) g0 rfl rfl rfl rfl rfl rfl rfl (by omega) (fun d' hd' => fe_60 (by omega) w9) rfl ?_
        refine fs_ishl (p := 37) (by decide +kernel) rfl ?_
        refine fs_ior (p := 38) (by decide +kernel) rfl ?_
        refine fs_istore_n (k := 3) (p := 39) (M := 5) (al' := [some (.ref x0), some (.int x1), some (.int x2), some (.int (x3 ||| ((1 : Int32) <<< (q10.1 &&& 31)))), some (.int x4)]) (by decide +kernel) rfl mx_65 rfl rfl ?_
        exact fe_65_39 hd ih _ _ _ _ _ _ _ g0 h
def fm_65 (x0 : Nat) (x1 : Int32) (σ : fx_S) : Option (Int32 × fx_S) :=
  if fx_oc x0 6 = true then (
  (fm_58 x0 σ).bind fun q14 =>
  fm_65_10 100000 x0 x1 q14.1 (0 : Int32) (0 : Int32) q14.2) else none
theorem fe_65 {d : Nat} (hd : 1 ≤ d) {x0 : Nat} {x1 : Int32} {σ : fx_S} {q : Int32 × fx_S} (h : fm_65 x0 x1 σ = some q) : fx_E none 65 d 0 [some (.ref x0), some (.int x1), none, none, none] [] σ (some (.int q.1)) q.2 := by
  unfold fm_65 at h
  obtain ⟨g0, h⟩ := fx_gd h
  refine fs_aload_n (k := 0) (p := 1) (by decide +kernel) rfl rfl ?_
  obtain ⟨q14, w13, h⟩ := fx_bd h
  refine fs_callV (idx := 65) (mj := 58) (ci := 6) (na := 0) (mx := 1) (p := 4) (args := [.ref x0]) (rest := []) (al2 := [some (.ref x0)]) (by decide +kernel) rfl (by decide +kernel) g0 rfl rfl rfl rfl rfl rfl rfl (by omega) (fun d' hd' => fe_58 (by omega) w13) rfl ?_
  refine fs_istore_n (k := 2) (p := 5) (M := 5) (al' := [some (.ref x0), some (.int x1), some (.int q14.1), none, none]) (by decide +kernel) rfl mx_65 rfl rfl ?_
  refine fs_iconst (n := 0) (p := 6) (by decide +kernel) rfl kc_0 ?_
  refine fs_istore_n (k := 3) (p := 7) (M := 5) (al' := [some (.ref x0), some (.int x1), some (.int q14.1), some (.int (0 : Int32)), none]) (by decide +kernel) rfl mx_65 rfl rfl ?_
  refine fs_iconst (n := 0) (p := 8) (by decide +kernel) rfl kc_0 ?_
  refine fs_istore (k := 4) (p := 10) (M := 5) (al' := [some (.ref x0), some (.int x1), some (.int q14.1), some (.int (0 : Int32)), some (.int (0 : Int32))]) (by decide +kernel) rfl mx_65 rfl rfl ?_
  exact fe_65_10 hd 100000 _ _ _ _ _ _ _ g0 h

/-! ZoneShares$State.toldOf(I)I -/
theorem mx_66 : iv_mx 66 = 4 := by decide +kernel
theorem rt_66 : iv_rt 66 = some .int := by decide +kernel
def fm_66_4 : Nat → Nat → Int32 → Int32 → Int32 → fx_S → Option (Int32 × fx_S)
  | 0, _, _, _, _, _ => none
  | n + 1, x0, x1, x2, x3, σ =>
    if (9 : Int32) ≤ x3 then (
      some (x2, σ)) else (
      (fx_ld σ (x0 + 2) ((x1 * (9 : Int32)) + x3)).bind fun v3 =>
      fm_66_4 n x0 x1 (x2 + v3) (x3 + (1 : Int32)) σ)
theorem fe_66_4 {d : Nat} (hd : 0 ≤ d) : ∀ (n : Nat) (x0 : Nat) (x1 : Int32) (x2 : Int32) (x3 : Int32) (σ : fx_S) (q : Int32 × fx_S) (g0 : fx_oc x0 6 = true), fm_66_4 n x0 x1 x2 x3 σ = some q → fx_E none 66 d 4 [some (.ref x0), some (.int x1), some (.int x2), some (.int x3)] [] σ (some (.int q.1)) q.2 := by
  intro n
  induction n with
  | zero =>
    intro x0 x1 x2 x3 σ q g0 h
    rw [fm_66_4] at h
    exact fx_no h
  | succ n ih =>
    intro x0 x1 x2 x3 σ q g0 h
    rw [fm_66_4] at h
    refine fs_iload_n (k := 3) (p := 5) (by decide +kernel) rfl rfl ?_
    refine fs_bipush (n := 9) (p := 7) (by decide +kernel) rfl kb_9 ?_
    by_cases c2 : (9 : Int32) ≤ x3
    · rw [if_pos c2] at h
      refine fs_icmp_ge_t (off := 23) (t := 30) (by decide +kernel) (by decide +kernel) c2 ?_
      refine fs_iload_n (k := 2) (p := 31) (by decide +kernel) rfl rfl ?_
      have h := Option.some.inj h
      subst h
      exact fs_iret (by decide +kernel) rt_66
    · rw [if_neg c2] at h
      refine fs_icmp_ge_f (off := 23) (t := 30) (p := 10) (by decide +kernel) (by decide +kernel) rfl c2 ?_
      refine fs_iload_n (k := 2) (p := 11) (by decide +kernel) rfl rfl ?_
      refine fs_aload_n (k := 0) (p := 12) (by decide +kernel) rfl rfl ?_
      refine fs_gfr (idx := 15) (ci := 6) (j := 1) (p := 15) (by decide +kernel) rfl (by decide +kernel) g0 (fr_6_1 g0) ?_
      refine fs_iload_n (k := 1) (p := 16) (by decide +kernel) rfl rfl ?_
      refine fs_bipush (n := 9) (p := 18) (by decide +kernel) rfl kb_9 ?_
      refine fs_imul (p := 19) (by decide +kernel) rfl ?_
      refine fs_iload_n (k := 3) (p := 20) (by decide +kernel) rfl rfl ?_
      refine fs_iadd (p := 21) (by decide +kernel) rfl ?_
      obtain ⟨v3, w4, h⟩ := fx_bd h
      refine fs_iaload (p := 22) (by decide +kernel) rfl w4 ?_
      refine fs_iadd (p := 23) (by decide +kernel) rfl ?_
      refine fs_istore_n (k := 2) (p := 24) (M := 4) (al' := [some (.ref x0), some (.int x1), some (.int (x2 + v3)), some (.int x3)]) (by decide +kernel) rfl mx_66 rfl rfl ?_
      refine fs_iinc (k := 3) (n := 1) (p := 27) (M := 4) (al' := [some (.ref x0), some (.int x1), some (.int (x2 + v3)), some (.int (x3 + (1 : Int32)))]) (by decide +kernel) rfl kc_1 mx_66 rfl rfl rfl ?_
      refine fs_goto (off := -23) (p := 4) (by decide +kernel) (by decide +kernel) ?_
      exact ih _ _ _ _ _ _ g0 h
def fm_66 (x0 : Nat) (x1 : Int32) (σ : fx_S) : Option (Int32 × fx_S) :=
  if fx_oc x0 6 = true then (
  fm_66_4 100000 x0 x1 (0 : Int32) (0 : Int32) σ) else none
theorem fe_66 {d : Nat} (hd : 0 ≤ d) {x0 : Nat} {x1 : Int32} {σ : fx_S} {q : Int32 × fx_S} (h : fm_66 x0 x1 σ = some q) : fx_E none 66 d 0 [some (.ref x0), some (.int x1), none, none] [] σ (some (.int q.1)) q.2 := by
  unfold fm_66 at h
  obtain ⟨g0, h⟩ := fx_gd h
  refine fs_iconst (n := 0) (p := 1) (by decide +kernel) rfl kc_0 ?_
  refine fs_istore_n (k := 2) (p := 2) (M := 4) (al' := [some (.ref x0), some (.int x1), some (.int (0 : Int32)), none]) (by decide +kernel) rfl mx_66 rfl rfl ?_
  refine fs_iconst (n := 0) (p := 3) (by decide +kernel) rfl kc_0 ?_
  refine fs_istore_n (k := 3) (p := 4) (M := 4) (al' := [some (.ref x0), some (.int x1), some (.int (0 : Int32)), some (.int (0 : Int32))]) (by decide +kernel) rfl mx_66 rfl rfl ?_
  exact fe_66_4 hd 100000 _ _ _ _ _ _ g0 h

/-! ZoneShares$Table.add(IIII)V -/
theorem mx_69 : iv_mx 69 = 6 := by decide +kernel
theorem rt_69 : iv_rt 69 = none := by decide +kernel
def fm_69 (x0 : Nat) (x1 : Int32) (x2 : Int32) (x3 : Int32) (x4 : Int32) (σ : fx_S) : Option (fx_S) :=
  if fx_oc x0 7 = true then (
  (fx_ld σ (x0 + 4) ((x1 * (9 : Int32)) + x2)).bind fun v10 =>
  (fx_st σ (x0 + 4) ((x1 * (9 : Int32)) + x2) (v10 + x3)).bind fun t13 =>
  (fx_ld t13 (x0 + 5) ((x1 * (9 : Int32)) + x2)).bind fun v15 =>
  (fx_st t13 (x0 + 5) ((x1 * (9 : Int32)) + x2) (v15 + x4)).bind fun t17 =>
  some t17) else none
theorem fe_69 {d : Nat} (hd : 0 ≤ d) {x0 : Nat} {x1 : Int32} {x2 : Int32} {x3 : Int32} {x4 : Int32} {σ : fx_S} {q : fx_S} (h : fm_69 x0 x1 x2 x3 x4 σ = some q) : fx_E none 69 d 0 [some (.ref x0), some (.int x1), some (.int x2), some (.int x3), some (.int x4), none] [] σ none q := by
  unfold fm_69 at h
  obtain ⟨g0, h⟩ := fx_gd h
  refine fs_iload_n (k := 1) (p := 1) (by decide +kernel) rfl rfl ?_
  refine fs_bipush (n := 9) (p := 3) (by decide +kernel) rfl kb_9 ?_
  refine fs_imul (p := 4) (by decide +kernel) rfl ?_
  refine fs_iload_n (k := 2) (p := 5) (by decide +kernel) rfl rfl ?_
  refine fs_iadd (p := 6) (by decide +kernel) rfl ?_
  refine fs_istore (k := 5) (p := 8) (M := 6) (al' := [some (.ref x0), some (.int x1), some (.int x2), some (.int x3), some (.int x4), some (.int ((x1 * (9 : Int32)) + x2))]) (by decide +kernel) rfl mx_69 rfl rfl ?_
  refine fs_aload_n (k := 0) (p := 9) (by decide +kernel) rfl rfl ?_
  refine fs_gfr (idx := 21) (ci := 7) (j := 3) (p := 12) (by decide +kernel) rfl (by decide +kernel) g0 (fr_7_3 g0) ?_
  refine fs_iload (k := 5) (p := 14) (by decide +kernel) rfl rfl ?_
  refine fs_dup2 (p := 15) (by decide +kernel) rfl rfl rfl ?_
  obtain ⟨v10, w11, h⟩ := fx_bd h
  refine fs_iaload (p := 16) (by decide +kernel) rfl w11 ?_
  refine fs_iload_n (k := 3) (p := 17) (by decide +kernel) rfl rfl ?_
  refine fs_iadd (p := 18) (by decide +kernel) rfl ?_
  obtain ⟨t13, w14, h⟩ := fx_bd h
  refine fs_iastore (p := 19) (by decide +kernel) rfl w14 ?_
  refine fs_aload_n (k := 0) (p := 20) (by decide +kernel) rfl rfl ?_
  refine fs_gfr (idx := 24) (ci := 7) (j := 4) (p := 23) (by decide +kernel) rfl (by decide +kernel) g0 (fr_7_4 g0) ?_
  refine fs_iload (k := 5) (p := 25) (by decide +kernel) rfl rfl ?_
  refine fs_dup2 (p := 26) (by decide +kernel) rfl rfl rfl ?_
  obtain ⟨v15, w16, h⟩ := fx_bd h
  refine fs_iaload (p := 27) (by decide +kernel) rfl w16 ?_
  refine fs_iload (k := 4) (p := 29) (by decide +kernel) rfl rfl ?_
  refine fs_iadd (p := 30) (by decide +kernel) rfl ?_
  obtain ⟨t17, w18, h⟩ := fx_bd h
  refine fs_iastore (p := 31) (by decide +kernel) rfl w18 ?_
  have h := Option.some.inj h
  subst h
  exact fs_ret (by decide +kernel) rt_69

/-! ZoneShares$Table.cutRow(II)V -/
theorem mx_71 : iv_mx 71 = 6 := by decide +kernel
theorem rt_71 : iv_rt 71 = none := by decide +kernel
def fm_71_72 (k_5 : Nat → Int32 → Int32 → Int32 → fx_S → Option (fx_S)) (x0 : Nat) (x1 : Int32) (x2 : Int32) (x3 : Int32) (s0 : Nat) (s1 : Int32) (s2 : Int32) (σ : fx_S) : Option (fx_S) :=
  (fx_st σ s0 s1 s2).bind fun t1 =>
  (fx_ld t1 (x0 + 6) x3).bind fun v5 =>
  (fx_st t1 (x0 + 8) x3 v5).bind fun t8 =>
  k_5 x0 x1 x2 (x3 + (1 : Int32)) t8
theorem fe_71_72 {d : Nat} (hd : 0 ≤ d) {k_5 : Nat → Int32 → Int32 → Int32 → fx_S → Option (fx_S)} (hk_5 : ∀ (x0 : Nat) (x1 : Int32) (x2 : Int32) (x3 : Int32) (o4 : Option Value) (σ : fx_S) (q : fx_S) (g0 : fx_oc x0 7 = true), k_5 x0 x1 x2 x3 σ = some q → fx_E none 71 d 5 [some (.ref x0), some (.int x1), some (.int x2), some (.int x3), o4, none] [] σ none q) (x0 : Nat) (x1 : Int32) (x2 : Int32) (x3 : Int32) (s0 : Nat) (s1 : Int32) (s2 : Int32) (o4 : Option Value) (σ : fx_S) (q : fx_S) (g0 : fx_oc x0 7 = true) (h : fm_71_72 k_5  x0 x1 x2 x3 s0 s1 s2 σ = some q) : fx_E none 71 d 72 [some (.ref x0), some (.int x1), some (.int x2), some (.int x3), o4, none] [.int s2, .int s1, .ref s0] σ none q := by
  unfold fm_71_72 at h
  obtain ⟨t1, w2, h⟩ := fx_bd h
  refine fs_iastore (p := 73) (by decide +kernel) rfl w2 ?_
  refine fs_aload_n (k := 0) (p := 74) (by decide +kernel) rfl rfl ?_
  refine fs_gfr (idx := 33) (ci := 7) (j := 7) (p := 77) (by decide +kernel) rfl (by decide +kernel) g0 (fr_7_7 g0) ?_
  refine fs_iload_n (k := 3) (p := 78) (by decide +kernel) rfl rfl ?_
  refine fs_aload_n (k := 0) (p := 79) (by decide +kernel) rfl rfl ?_
  refine fs_gfr (idx := 27) (ci := 7) (j := 5) (p := 82) (by decide +kernel) rfl (by decide +kernel) g0 (fr_7_5 g0) ?_
  refine fs_iload_n (k := 3) (p := 83) (by decide +kernel) rfl rfl ?_
  obtain ⟨v5, w6, h⟩ := fx_bd h
  refine fs_iaload (p := 84) (by decide +kernel) rfl w6 ?_
  obtain ⟨t8, w9, h⟩ := fx_bd h
  refine fs_iastore (p := 85) (by decide +kernel) rfl w9 ?_
  refine fs_iinc (k := 3) (n := 1) (p := 88) (M := 6) (al' := [some (.ref x0), some (.int x1), some (.int x2), some (.int (x3 + (1 : Int32))), o4, none]) (by decide +kernel) rfl kc_1 mx_71 rfl rfl rfl ?_
  refine fs_goto (off := -83) (p := 5) (by decide +kernel) (by decide +kernel) ?_
  exact hk_5 _ _ _ _ _ _ _ g0 h
def fm_71_52 (k_5 : Nat → Int32 → Int32 → Int32 → fx_S → Option (fx_S)) (x0 : Nat) (x1 : Int32) (x2 : Int32) (x3 : Int32) (x4 : Int64) (s0 : Nat) (s1 : Int32) (s2 : Int32) (σ : fx_S) : Option (fx_S) :=
  (fx_st σ s0 s1 s2).bind fun t1 =>
  if x2 ≤ 0 then (
    fm_71_72 k_5 x0 x1 x2 x3 (x0 + 7) x3 (0 : Int32) t1) else (
    if ¬ (x2).toInt64 = 0 then (
    fm_71_72 k_5 x0 x1 x2 x3 (x0 + 7) x3 (((x4 - x4 / (x2).toInt64 * (x2).toInt64)).toInt32) t1) else none)
theorem fe_71_52 {d : Nat} (hd : 0 ≤ d) {k_5 : Nat → Int32 → Int32 → Int32 → fx_S → Option (fx_S)} (hk_5 : ∀ (x0 : Nat) (x1 : Int32) (x2 : Int32) (x3 : Int32) (o4 : Option Value) (σ : fx_S) (q : fx_S) (g0 : fx_oc x0 7 = true), k_5 x0 x1 x2 x3 σ = some q → fx_E none 71 d 5 [some (.ref x0), some (.int x1), some (.int x2), some (.int x3), o4, none] [] σ none q) (x0 : Nat) (x1 : Int32) (x2 : Int32) (x3 : Int32) (x4 : Int64) (s0 : Nat) (s1 : Int32) (s2 : Int32) (σ : fx_S) (q : fx_S) (g0 : fx_oc x0 7 = true) (h : fm_71_52 k_5  x0 x1 x2 x3 x4 s0 s1 s2 σ = some q) : fx_E none 71 d 52 [some (.ref x0), some (.int x1), some (.int x2), some (.int x3), some (.long x4), none] [.int s2, .int s1, .ref s0] σ none q := by
  unfold fm_71_52 at h
  obtain ⟨t1, w2, h⟩ := fx_bd h
  refine fs_iastore (p := 53) (by decide +kernel) rfl w2 ?_
  refine fs_aload_n (k := 0) (p := 54) (by decide +kernel) rfl rfl ?_
  refine fs_gfr (idx := 30) (ci := 7) (j := 6) (p := 57) (by decide +kernel) rfl (by decide +kernel) g0 (fr_7_6 g0) ?_
  refine fs_iload_n (k := 3) (p := 58) (by decide +kernel) rfl rfl ?_
  refine fs_iload_n (k := 2) (p := 59) (by decide +kernel) rfl rfl ?_
  by_cases c6 : x2 ≤ 0
  · rw [if_pos c6] at h
    refine fs_if_le_t (off := 12) (t := 71) (by decide +kernel) (by decide +kernel) c6 ?_
    refine fs_iconst (n := 0) (p := 72) (by decide +kernel) rfl kc_0 ?_
    exact fe_71_72 hd hk_5 _ _ _ _ _ _ _ _ _ _ g0 h
  · rw [if_neg c6] at h
    refine fs_if_le_f (off := 12) (t := 71) (p := 62) (by decide +kernel) (by decide +kernel) rfl c6 ?_
    refine fs_lload (k := 4) (p := 64) (by decide +kernel) rfl rfl ?_
    refine fs_iload_n (k := 2) (p := 65) (by decide +kernel) rfl rfl ?_
    refine fs_i2l (p := 66) (by decide +kernel) rfl ?_
    obtain ⟨z8, h⟩ := fx_gd h
    refine fs_lrem (p := 67) (by decide +kernel) rfl z8 ?_
    refine fs_l2i (p := 68) (by decide +kernel) rfl ?_
    refine fs_goto (off := 4) (p := 72) (by decide +kernel) (by decide +kernel) ?_
    exact fe_71_72 hd hk_5 _ _ _ _ _ _ _ _ _ _ g0 h
def fm_71_5 : Nat → Nat → Int32 → Int32 → Int32 → fx_S → Option (fx_S)
  | 0, _, _, _, _, _ => none
  | n + 1, x0, x1, x2, x3, σ =>
    if ((x1 * (9 : Int32)) + (9 : Int32)) ≤ x3 then (
      some σ) else (
      (fx_ld σ (x0 + 1) x1).bind fun v4 =>
      (fx_ld σ (x0 + 4) x3).bind fun v8 =>
      if x2 ≤ 0 then (
        fm_71_52 (fm_71_5 n) x0 x1 x2 x3 ((v4).toInt64 * (v8).toInt64) (x0 + 6) x3 (0 : Int32) σ) else (
        if ¬ (x2).toInt64 = 0 then (
        fm_71_52 (fm_71_5 n) x0 x1 x2 x3 ((v4).toInt64 * (v8).toInt64) (x0 + 6) x3 (((((v4).toInt64 * (v8).toInt64) / (x2).toInt64)).toInt32) σ) else none))
theorem fe_71_5 {d : Nat} (hd : 0 ≤ d) : ∀ (n : Nat) (x0 : Nat) (x1 : Int32) (x2 : Int32) (x3 : Int32) (o4 : Option Value) (σ : fx_S) (q : fx_S) (g0 : fx_oc x0 7 = true), fm_71_5 n x0 x1 x2 x3 σ = some q → fx_E none 71 d 5 [some (.ref x0), some (.int x1), some (.int x2), some (.int x3), o4, none] [] σ none q := by
  intro n
  induction n with
  | zero =>
    intro x0 x1 x2 x3 o4 σ q g0 h
    rw [fm_71_5] at h
    exact fx_no h
  | succ n ih =>
    intro x0 x1 x2 x3 o4 σ q g0 h
    rw [fm_71_5] at h
    refine fs_iload_n (k := 3) (p := 6) (by decide +kernel) rfl rfl ?_
    refine fs_iload_n (k := 1) (p := 7) (by decide +kernel) rfl rfl ?_
    refine fs_bipush (n := 9) (p := 9) (by decide +kernel) rfl kb_9 ?_
    refine fs_imul (p := 10) (by decide +kernel) rfl ?_
    refine fs_bipush (n := 9) (p := 12) (by decide +kernel) rfl kb_9 ?_
    refine fs_iadd (p := 13) (by decide +kernel) rfl ?_
    by_cases c3 : ((x1 * (9 : Int32)) + (9 : Int32)) ≤ x3
    · rw [if_pos c3] at h
      refine fs_icmp_ge_t (off := 78) (t := 91) (by decide +kernel) (by decide +kernel) c3 ?_
      have h := Option.some.inj h
      subst h
      exact fs_ret (by decide +kernel) rt_71
    · rw [if_neg c3] at h
      refine fs_icmp_ge_f (off := 78) (t := 91) (p := 16) (by decide +kernel) (by decide +kernel) rfl c3 ?_
      refine fs_aload_n (k := 0) (p := 17) (by decide +kernel) rfl rfl ?_
      refine fs_gfr (idx := 9) (ci := 7) (j := 0) (p := 20) (by decide +kernel) rfl (by decide +kernel) g0 (fr_7_0 g0) ?_
      refine fs_iload_n (k := 1) (p := 21) (by decide +kernel) rfl rfl ?_
      obtain ⟨v4, w5, h⟩ := fx_bd h
      refine fs_iaload (p := 22) (by decide +kernel) rfl w5 ?_
      refine fs_i2l (p := 23) (by decide +kernel) rfl ?_
      refine fs_aload_n (k := 0) (p := 24) (by decide +kernel) rfl rfl ?_
      refine fs_gfr (idx := 21) (ci := 7) (j := 3) (p := 27) (by decide +kernel) rfl (by decide +kernel) g0 (fr_7_3 g0) ?_
      refine fs_iload_n (k := 3) (p := 28) (by decide +kernel) rfl rfl ?_
      obtain ⟨v8, w9, h⟩ := fx_bd h
      refine fs_iaload (p := 29) (by decide +kernel) rfl w9 ?_
      refine fs_i2l (p := 30) (by decide +kernel) rfl ?_
      refine fs_lmul (p := 31) (by decide +kernel) rfl ?_
      refine fs_lstore (k := 4) (p := 33) (M := 6) (al' := [some (.ref x0), some (.int x1), some (.int x2), some (.int x3), some (.long ((v4).toInt64 * (v8).toInt64)), none]) (by decide +kernel) rfl mx_71 rfl rfl ?_
      refine fs_aload_n (k := 0) (p := 34) (by decide +kernel) rfl rfl ?_
      refine fs_gfr (idx := 27) (ci := 7) (j := 5) (p := 37) (by decide +kernel) rfl (by decide +kernel) g0 (fr_7_5 g0) ?_
      refine fs_iload_n (k := 3) (p := 38) (by decide +kernel) rfl rfl ?_
      refine fs_iload_n (k := 2) (p := 39) (by decide +kernel) rfl rfl ?_
      by_cases c13 : x2 ≤ 0
      · rw [if_pos c13] at h
        refine fs_if_le_t (off := 12) (t := 51) (by decide +kernel) (by decide +kernel) c13 ?_
        refine fs_iconst (n := 0) (p := 52) (by decide +kernel) rfl kc_0 ?_
        exact fe_71_52 hd ih _ _ _ _ _ _ _ _ _ _ g0 h
      · rw [if_neg c13] at h
        refine fs_if_le_f (off := 12) (t := 51) (p := 42) (by decide +kernel) (by decide +kernel) rfl c13 ?_
        refine fs_lload (k := 4) (p := 44) (by decide +kernel) rfl rfl ?_
        refine fs_iload_n (k := 2) (p := 45) (by decide +kernel) rfl rfl ?_
        refine fs_i2l (p := 46) (by decide +kernel) rfl ?_
        obtain ⟨z15, h⟩ := fx_gd h
        refine fs_ldiv (p := 47) (by decide +kernel) rfl z15 ?_
        refine fs_l2i (p := 48) (by decide +kernel) rfl ?_
        refine fs_goto (off := 4) (p := 52) (by decide +kernel) (by decide +kernel) ?_
        exact fe_71_52 hd ih _ _ _ _ _ _ _ _ _ _ g0 h
def fm_71 (x0 : Nat) (x1 : Int32) (x2 : Int32) (σ : fx_S) : Option (fx_S) :=
  if fx_oc x0 7 = true then (
  fm_71_5 100000 x0 x1 x2 (x1 * (9 : Int32)) σ) else none
theorem fe_71 {d : Nat} (hd : 0 ≤ d) {x0 : Nat} {x1 : Int32} {x2 : Int32} {σ : fx_S} {q : fx_S} (h : fm_71 x0 x1 x2 σ = some q) : fx_E none 71 d 0 [some (.ref x0), some (.int x1), some (.int x2), none, none, none] [] σ none q := by
  unfold fm_71 at h
  obtain ⟨g0, h⟩ := fx_gd h
  refine fs_iload_n (k := 1) (p := 1) (by decide +kernel) rfl rfl ?_
  refine fs_bipush (n := 9) (p := 3) (by decide +kernel) rfl kb_9 ?_
  refine fs_imul (p := 4) (by decide +kernel) rfl ?_
  refine fs_istore_n (k := 3) (p := 5) (M := 6) (al' := [some (.ref x0), some (.int x1), some (.int x2), some (.int (x1 * (9 : Int32))), none, none]) (by decide +kernel) rfl mx_71 rfl rfl ?_
  exact fe_71_5 hd 100000 _ _ _ _ _ _ _ g0 h

/-! ZoneShares$Table.sum([II)I -/
theorem mx_72 : iv_mx 72 = 4 := by decide +kernel
theorem rt_72 : iv_rt 72 = some .int := by decide +kernel
def fm_72_4 : Nat → Nat → Int32 → Int32 → Int32 → fx_S → Option (Int32 × fx_S)
  | 0, _, _, _, _, _ => none
  | n + 1, x0, x1, x2, x3, σ =>
    if (9 : Int32) ≤ x3 then (
      some (x2, σ)) else (
      (fx_ld σ x0 ((x1 * (9 : Int32)) + x3)).bind fun v3 =>
      fm_72_4 n x0 x1 (x2 + v3) (x3 + (1 : Int32)) σ)
theorem fe_72_4 {d : Nat} (hd : 0 ≤ d) : ∀ (n : Nat) (x0 : Nat) (x1 : Int32) (x2 : Int32) (x3 : Int32) (σ : fx_S) (q : Int32 × fx_S), fm_72_4 n x0 x1 x2 x3 σ = some q → fx_E none 72 d 4 [some (.ref x0), some (.int x1), some (.int x2), some (.int x3)] [] σ (some (.int q.1)) q.2 := by
  intro n
  induction n with
  | zero =>
    intro x0 x1 x2 x3 σ q  h
    rw [fm_72_4] at h
    exact fx_no h
  | succ n ih =>
    intro x0 x1 x2 x3 σ q  h
    rw [fm_72_4] at h
    refine fs_iload_n (k := 3) (p := 5) (by decide +kernel) rfl rfl ?_
    refine fs_bipush (n := 9) (p := 7) (by decide +kernel) rfl kb_9 ?_
    by_cases c2 : (9 : Int32) ≤ x3
    · rw [if_pos c2] at h
      refine fs_icmp_ge_t (off := 20) (t := 27) (by decide +kernel) (by decide +kernel) c2 ?_
      refine fs_iload_n (k := 2) (p := 28) (by decide +kernel) rfl rfl ?_
      have h := Option.some.inj h
      subst h
      exact fs_iret (by decide +kernel) rt_72
    · rw [if_neg c2] at h
      refine fs_icmp_ge_f (off := 20) (t := 27) (p := 10) (by decide +kernel) (by decide +kernel) rfl c2 ?_
      refine fs_iload_n (k := 2) (p := 11) (by decide +kernel) rfl rfl ?_
      refine fs_aload_n (k := 0) (p := 12) (by decide +kernel) rfl rfl ?_
      refine fs_iload_n (k := 1) (p := 13) (by decide +kernel) rfl rfl ?_
      refine fs_bipush (n := 9) (p := 15) (by decide +kernel) rfl kb_9 ?_
      refine fs_imul (p := 16) (by decide +kernel) rfl ?_
      refine fs_iload_n (k := 3) (p := 17) (by decide +kernel) rfl rfl ?_
      refine fs_iadd (p := 18) (by decide +kernel) rfl ?_
      obtain ⟨v3, w4, h⟩ := fx_bd h
      refine fs_iaload (p := 19) (by decide +kernel) rfl w4 ?_
      refine fs_iadd (p := 20) (by decide +kernel) rfl ?_
      refine fs_istore_n (k := 2) (p := 21) (M := 4) (al' := [some (.ref x0), some (.int x1), some (.int (x2 + v3)), some (.int x3)]) (by decide +kernel) rfl mx_72 rfl rfl ?_
      refine fs_iinc (k := 3) (n := 1) (p := 24) (M := 4) (al' := [some (.ref x0), some (.int x1), some (.int (x2 + v3)), some (.int (x3 + (1 : Int32)))]) (by decide +kernel) rfl kc_1 mx_72 rfl rfl rfl ?_
      refine fs_goto (off := -20) (p := 4) (by decide +kernel) (by decide +kernel) ?_
      exact ih _ _ _ _ _ _ h
def fm_72 (x0 : Nat) (x1 : Int32) (σ : fx_S) : Option (Int32 × fx_S) :=
  fm_72_4 100000 x0 x1 (0 : Int32) (0 : Int32) σ
theorem fe_72 {d : Nat} (hd : 0 ≤ d) {x0 : Nat} {x1 : Int32} {σ : fx_S} {q : Int32 × fx_S} (h : fm_72 x0 x1 σ = some q) : fx_E none 72 d 0 [some (.ref x0), some (.int x1), none, none] [] σ (some (.int q.1)) q.2 := by
  unfold fm_72 at h
  refine fs_iconst (n := 0) (p := 1) (by decide +kernel) rfl kc_0 ?_
  refine fs_istore_n (k := 2) (p := 2) (M := 4) (al' := [some (.ref x0), some (.int x1), some (.int (0 : Int32)), none]) (by decide +kernel) rfl mx_72 rfl rfl ?_
  refine fs_iconst (n := 0) (p := 3) (by decide +kernel) rfl kc_0 ?_
  refine fs_istore_n (k := 3) (p := 4) (M := 4) (al' := [some (.ref x0), some (.int x1), some (.int (0 : Int32)), some (.int (0 : Int32))]) (by decide +kernel) rfl mx_72 rfl rfl ?_
  exact fe_72_4 hd 100000 _ _ _ _ _ _ h
end
section
/-! ZoneShares$Table.leftOver(I)I -/
theorem mx_73 : iv_mx 73 = 2 := by decide +kernel
theorem rt_73 : iv_rt 73 = some .int := by decide +kernel
def fm_73 (x0 : Nat) (x1 : Int32) (σ : fx_S) : Option (Int32 × fx_S) :=
  if fx_oc x0 7 = true then (
  (fx_ld σ (x0 + 2) x1).bind fun v10 =>
  if v10 ≤ 0 then (
    some ((0 : Int32), σ)) else (
    (fx_ld σ (x0 + 1) x1).bind fun v15 =>
    (fm_72 (x0 + 6) x1 σ).bind fun q18 =>
    some ((v15 - q18.1), q18.2))) else none
theorem fe_73 {d : Nat} (hd : 1 ≤ d) {x0 : Nat} {x1 : Int32} {σ : fx_S} {q : Int32 × fx_S} (h : fm_73 x0 x1 σ = some q) : fx_E none 73 d 0 [some (.ref x0), some (.int x1)] [] σ (some (.int q.1)) q.2 := by
  unfold fm_73 at h
  obtain ⟨g0, h⟩ := fx_gd h
  refine fs_aload_n (k := 0) (p := 1) (by decide +kernel) rfl rfl ?_
  refine fs_gfr (idx := 15) (ci := 7) (j := 1) (p := 4) (by decide +kernel) rfl (by decide +kernel) g0 (fr_7_1 g0) ?_
  refine fs_iload_n (k := 1) (p := 5) (by decide +kernel) rfl rfl ?_
  obtain ⟨v10, w11, h⟩ := fx_bd h
  refine fs_iaload (p := 6) (by decide +kernel) rfl w11 ?_
  by_cases c14 : v10 ≤ 0
  · rw [if_pos c14] at h
    refine fs_if_le_t (off := 21) (t := 27) (by decide +kernel) (by decide +kernel) c14 ?_
    refine fs_iconst (n := 0) (p := 28) (by decide +kernel) rfl kc_0 ?_
    have h := Option.some.inj h
    subst h
    exact fs_iret (by decide +kernel) rt_73
  · rw [if_neg c14] at h
    refine fs_if_le_f (off := 21) (t := 27) (p := 9) (by decide +kernel) (by decide +kernel) rfl c14 ?_
    refine fs_aload_n (k := 0) (p := 10) (by decide +kernel) rfl rfl ?_
    refine fs_gfr (idx := 9) (ci := 7) (j := 0) (p := 13) (by decide +kernel) rfl (by decide +kernel) g0 (fr_7_0 g0) ?_
    refine fs_iload_n (k := 1) (p := 14) (by decide +kernel) rfl rfl ?_
    obtain ⟨v15, w16, h⟩ := fx_bd h
    refine fs_iaload (p := 15) (by decide +kernel) rfl w16 ?_
    refine fs_aload_n (k := 0) (p := 16) (by decide +kernel) rfl rfl ?_
    refine fs_gfr (idx := 27) (ci := 7) (j := 5) (p := 19) (by decide +kernel) rfl (by decide +kernel) g0 (fr_7_5 g0) ?_
    refine fs_iload_n (k := 1) (p := 20) (by decide +kernel) rfl rfl ?_
    obtain ⟨q18, w17, h⟩ := fx_bd h
    refine fs_callS (idx := 42) (mj := 72) (na := 2) (mx := 4) (p := 23) (args := [.ref (x0 + 6), .int x1]) (rest := [.int v15]) (al2 := [some (.ref (x0 + 6)), some (.int x1), none, none]) (by decide +kernel) rfl (by decide +kernel) rfl rfl rfl rfl rfl rfl rfl (by omega) (fun d' hd' => fe_72 (by omega) w17) rfl ?_
    refine fs_isub (p := 24) (by decide +kernel) rfl ?_
    refine fs_goto (off := 4) (p := 28) (by decide +kernel) (by decide +kernel) ?_
    have h := Option.some.inj h
    subst h
    exact fs_iret (by decide +kernel) rt_73

/-! ZoneShares$Table.giveToGreatest(I)V -/
theorem mx_75 : iv_mx 75 = 5 := by decide +kernel
theorem rt_75 : iv_rt 75 = none := by decide +kernel
def fm_75_61 (k_10 : Nat → Int32 → Int32 → Int32 → Int32 → fx_S → Option (fx_S)) (x0 : Nat) (x1 : Int32) (x2 : Int32) (x3 : Int32) (x4 : Int32) (σ : fx_S) : Option (fx_S) :=
  k_10 x0 x1 x2 x3 (x4 + (1 : Int32)) σ
theorem fe_75_61 {d : Nat} (hd : 0 ≤ d) {k_10 : Nat → Int32 → Int32 → Int32 → Int32 → fx_S → Option (fx_S)} (hk_10 : ∀ (x0 : Nat) (x1 : Int32) (x2 : Int32) (x3 : Int32) (x4 : Int32) (σ : fx_S) (q : fx_S) (g0 : fx_oc x0 7 = true), k_10 x0 x1 x2 x3 x4 σ = some q → fx_E none 75 d 10 [some (.ref x0), some (.int x1), some (.int x2), some (.int x3), some (.int x4)] [] σ none q) (x0 : Nat) (x1 : Int32) (x2 : Int32) (x3 : Int32) (x4 : Int32) (σ : fx_S) (q : fx_S) (g0 : fx_oc x0 7 = true) (h : fm_75_61 k_10  x0 x1 x2 x3 x4 σ = some q) : fx_E none 75 d 61 [some (.ref x0), some (.int x1), some (.int x2), some (.int x3), some (.int x4)] [] σ none q := by
  unfold fm_75_61 at h
  refine fs_iinc (k := 4) (n := 1) (p := 64) (M := 5) (al' := [some (.ref x0), some (.int x1), some (.int x2), some (.int x3), some (.int (x4 + (1 : Int32)))]) (by decide +kernel) rfl kc_1 mx_75 rfl rfl rfl ?_
  refine fs_goto (off := -54) (p := 10) (by decide +kernel) (by decide +kernel) ?_
  exact hk_10 _ _ _ _ _ _ _ g0 h
def fm_75_10 : Nat → Nat → Int32 → Int32 → Int32 → Int32 → fx_S → Option (fx_S)
  | 0, _, _, _, _, _, _ => none
  | n + 1, x0, x1, x2, x3, x4, σ =>
    if ((x1 * (9 : Int32)) + (9 : Int32)) ≤ x4 then (
      if x2 = (-1 : Int32) then (
        some σ) else (
        (fx_ld σ (x0 + 8) x2).bind fun v6 =>
        (fx_st σ (x0 + 8) x2 (v6 + (1 : Int32))).bind fun t9 =>
        some t9)) else (
      (fx_ld σ (x0 + 7) x4).bind fun v11 =>
      if v11 ≤ x3 then (
        fm_75_61 (fm_75_10 n) x0 x1 x2 x3 x4 σ) else (
        (fx_ld σ (x0 + 8) x4).bind fun v17 =>
        (fx_ld σ (x0 + 6) x4).bind fun v19 =>
        if ¬ v17 = v19 then (
          fm_75_61 (fm_75_10 n) x0 x1 x2 x3 x4 σ) else (
          (fx_ld σ (x0 + 7) x4).bind fun v24 =>
          fm_75_61 (fm_75_10 n) x0 x1 x4 v24 x4 σ)))
theorem fe_75_10 {d : Nat} (hd : 0 ≤ d) : ∀ (n : Nat) (x0 : Nat) (x1 : Int32) (x2 : Int32) (x3 : Int32) (x4 : Int32) (σ : fx_S) (q : fx_S) (g0 : fx_oc x0 7 = true), fm_75_10 n x0 x1 x2 x3 x4 σ = some q → fx_E none 75 d 10 [some (.ref x0), some (.int x1), some (.int x2), some (.int x3), some (.int x4)] [] σ none q := by
  intro n
  induction n with
  | zero =>
    intro x0 x1 x2 x3 x4 σ q g0 h
    rw [fm_75_10] at h
    exact fx_no h
  | succ n ih =>
    intro x0 x1 x2 x3 x4 σ q g0 h
    rw [fm_75_10] at h
    refine fs_iload (k := 4) (p := 12) (by decide +kernel) rfl rfl ?_
    refine fs_iload_n (k := 1) (p := 13) (by decide +kernel) rfl rfl ?_
    refine fs_bipush (n := 9) (p := 15) (by decide +kernel) rfl kb_9 ?_
    refine fs_imul (p := 16) (by decide +kernel) rfl ?_
    refine fs_bipush (n := 9) (p := 18) (by decide +kernel) rfl kb_9 ?_
    refine fs_iadd (p := 19) (by decide +kernel) rfl ?_
    by_cases c3 : ((x1 * (9 : Int32)) + (9 : Int32)) ≤ x4
    · rw [if_pos c3] at h
      refine fs_icmp_ge_t (off := 48) (t := 67) (by decide +kernel) (by decide +kernel) c3 ?_
      refine fs_iload_n (k := 2) (p := 68) (by decide +kernel) rfl rfl ?_
      refine fs_iconst (n := -1) (p := 69) (by decide +kernel) rfl kc_m1 ?_
      by_cases c5 : x2 = (-1 : Int32)
      · rw [if_pos c5] at h
        refine fs_icmp_eq_t (off := 13) (t := 82) (by decide +kernel) (by decide +kernel) c5 ?_
        have h := Option.some.inj h
        subst h
        exact fs_ret (by decide +kernel) rt_75
      · rw [if_neg c5] at h
        refine fs_icmp_eq_f (off := 13) (t := 82) (p := 72) (by decide +kernel) (by decide +kernel) rfl c5 ?_
        refine fs_aload_n (k := 0) (p := 73) (by decide +kernel) rfl rfl ?_
        refine fs_gfr (idx := 33) (ci := 7) (j := 7) (p := 76) (by decide +kernel) rfl (by decide +kernel) g0 (fr_7_7 g0) ?_
        refine fs_iload_n (k := 2) (p := 77) (by decide +kernel) rfl rfl ?_
        refine fs_dup2 (p := 78) (by decide +kernel) rfl rfl rfl ?_
        obtain ⟨v6, w7, h⟩ := fx_bd h
        refine fs_iaload (p := 79) (by decide +kernel) rfl w7 ?_
        refine fs_iconst (n := 1) (p := 80) (by decide +kernel) rfl kc_1 ?_
        refine fs_iadd (p := 81) (by decide +kernel) rfl ?_
        obtain ⟨t9, w10, h⟩ := fx_bd h
        refine fs_iastore (p := 82) (by decide +kernel) rfl w10 ?_
        have h := Option.some.inj h
        subst h
        exact fs_ret (by decide +kernel) rt_75
    · rw [if_neg c3] at h
      refine fs_icmp_ge_f (off := 48) (t := 67) (p := 22) (by decide +kernel) (by decide +kernel) rfl c3 ?_
      refine fs_aload_n (k := 0) (p := 23) (by decide +kernel) rfl rfl ?_
      refine fs_gfr (idx := 30) (ci := 7) (j := 6) (p := 26) (by decide +kernel) rfl (by decide +kernel) g0 (fr_7_6 g0) ?_
      refine fs_iload (k := 4) (p := 28) (by decide +kernel) rfl rfl ?_
      obtain ⟨v11, w12, h⟩ := fx_bd h
      refine fs_iaload (p := 29) (by decide +kernel) rfl w12 ?_
      refine fs_iload_n (k := 3) (p := 30) (by decide +kernel) rfl rfl ?_
      by_cases c16 : v11 ≤ x3
      · rw [if_pos c16] at h
        refine fs_icmp_le_t (off := 31) (t := 61) (by decide +kernel) (by decide +kernel) c16 ?_
        exact fe_75_61 hd ih _ _ _ _ _ _ _ g0 h
      · rw [if_neg c16] at h
        refine fs_icmp_le_f (off := 31) (t := 61) (p := 33) (by decide +kernel) (by decide +kernel) rfl c16 ?_
        refine fs_aload_n (k := 0) (p := 34) (by decide +kernel) rfl rfl ?_
        refine fs_gfr (idx := 33) (ci := 7) (j := 7) (p := 37) (by decide +kernel) rfl (by decide +kernel) g0 (fr_7_7 g0) ?_
        refine fs_iload (k := 4) (p := 39) (by decide +kernel) rfl rfl ?_
        obtain ⟨v17, w18, h⟩ := fx_bd h
        refine fs_iaload (p := 40) (by decide +kernel) rfl w18 ?_
        refine fs_aload_n (k := 0) (p := 41) (by decide +kernel) rfl rfl ?_
        refine fs_gfr (idx := 27) (ci := 7) (j := 5) (p := 44) (by decide +kernel) rfl (by decide +kernel) g0 (fr_7_5 g0) ?_
        refine fs_iload (k := 4) (p := 46) (by decide +kernel) rfl rfl ?_
        obtain ⟨v19, w20, h⟩ := fx_bd h
        refine fs_iaload (p := 47) (by decide +kernel) rfl w20 ?_
        by_cases c23 : ¬ v17 = v19
        · rw [if_pos c23] at h
          refine fs_icmp_ne_t (off := 14) (t := 61) (by decide +kernel) (by decide +kernel) c23 ?_
          exact fe_75_61 hd ih _ _ _ _ _ _ _ g0 h
        · rw [if_neg c23] at h
          refine fs_icmp_ne_f (off := 14) (t := 61) (p := 50) (by decide +kernel) (by decide +kernel) rfl c23 ?_
          refine fs_iload (k := 4) (p := 52) (by decide +kernel) rfl rfl ?_
          refine fs_istore_n (k := 2) (p := 53) (M := 5) (al' := [some (.ref x0), some (.int x1), some (.int x4), some (.int x3), some (.int x4)]) (by decide +kernel) rfl mx_75 rfl rfl ?_
          refine fs_aload_n (k := 0) (p := 54) (by decide +kernel) rfl rfl ?_
          refine fs_gfr (idx := 30) (ci := 7) (j := 6) (p := 57) (by decide +kernel) rfl (by decide +kernel) g0 (fr_7_6 g0) ?_
          refine fs_iload (k := 4) (p := 59) (by decide +kernel) rfl rfl ?_
          obtain ⟨v24, w25, h⟩ := fx_bd h
          refine fs_iaload (p := 60) (by decide +kernel) rfl w25 ?_
          refine fs_istore_n (k := 3) (p := 61) (M := 5) (al' := [some (.ref x0), some (.int x1), some (.int x4), some (.int v24), some (.int x4)]) (by decide +kernel) rfl mx_75 rfl rfl ?_
          exact fe_75_61 hd ih _ _ _ _ _ _ _ g0 h
def fm_75 (x0 : Nat) (x1 : Int32) (σ : fx_S) : Option (fx_S) :=
  if fx_oc x0 7 = true then (
  fm_75_10 100000 x0 x1 (-1 : Int32) (0 : Int32) (x1 * (9 : Int32)) σ) else none
theorem fe_75 {d : Nat} (hd : 0 ≤ d) {x0 : Nat} {x1 : Int32} {σ : fx_S} {q : fx_S} (h : fm_75 x0 x1 σ = some q) : fx_E none 75 d 0 [some (.ref x0), some (.int x1), none, none, none] [] σ none q := by
  unfold fm_75 at h
  obtain ⟨g0, h⟩ := fx_gd h
  refine fs_iconst (n := -1) (p := 1) (by decide +kernel) rfl kc_m1 ?_
  refine fs_istore_n (k := 2) (p := 2) (M := 5) (al' := [some (.ref x0), some (.int x1), some (.int (-1 : Int32)), none, none]) (by decide +kernel) rfl mx_75 rfl rfl ?_
  refine fs_iconst (n := 0) (p := 3) (by decide +kernel) rfl kc_0 ?_
  refine fs_istore_n (k := 3) (p := 4) (M := 5) (al' := [some (.ref x0), some (.int x1), some (.int (-1 : Int32)), some (.int (0 : Int32)), none]) (by decide +kernel) rfl mx_75 rfl rfl ?_
  refine fs_iload_n (k := 1) (p := 5) (by decide +kernel) rfl rfl ?_
  refine fs_bipush (n := 9) (p := 7) (by decide +kernel) rfl kb_9 ?_
  refine fs_imul (p := 8) (by decide +kernel) rfl ?_
  refine fs_istore (k := 4) (p := 10) (M := 5) (al' := [some (.ref x0), some (.int x1), some (.int (-1 : Int32)), some (.int (0 : Int32)), some (.int (x1 * (9 : Int32)))]) (by decide +kernel) rfl mx_75 rfl rfl ?_
  exact fe_75_10 hd 100000 _ _ _ _ _ _ _ g0 h

/-! ZoneShares$Table.column(I)I -/
theorem mx_76 : iv_mx 76 = 4 := by decide +kernel
theorem rt_76 : iv_rt 76 = some .int := by decide +kernel
def fm_76_4 : Nat → Nat → Int32 → Int32 → Int32 → fx_S → Option (Int32 × fx_S)
  | 0, _, _, _, _, _ => none
  | n + 1, x0, x1, x2, x3, σ =>
    if (8 : Int32) ≤ x3 then (
      some (x2, σ)) else (
      (fx_ld σ (x0 + 8) ((x3 * (9 : Int32)) + x1)).bind fun v3 =>
      fm_76_4 n x0 x1 (x2 + v3) (x3 + (1 : Int32)) σ)
theorem fe_76_4 {d : Nat} (hd : 0 ≤ d) : ∀ (n : Nat) (x0 : Nat) (x1 : Int32) (x2 : Int32) (x3 : Int32) (σ : fx_S) (q : Int32 × fx_S) (g0 : fx_oc x0 7 = true), fm_76_4 n x0 x1 x2 x3 σ = some q → fx_E none 76 d 4 [some (.ref x0), some (.int x1), some (.int x2), some (.int x3)] [] σ (some (.int q.1)) q.2 := by
  intro n
  induction n with
  | zero =>
    intro x0 x1 x2 x3 σ q g0 h
    rw [fm_76_4] at h
    exact fx_no h
  | succ n ih =>
    intro x0 x1 x2 x3 σ q g0 h
    rw [fm_76_4] at h
    refine fs_iload_n (k := 3) (p := 5) (by decide +kernel) rfl rfl ?_
    refine fs_bipush (n := 8) (p := 7) (by decide +kernel) rfl kb_8 ?_
    by_cases c2 : (8 : Int32) ≤ x3
    · rw [if_pos c2] at h
      refine fs_icmp_ge_t (off := 23) (t := 30) (by decide +kernel) (by decide +kernel) c2 ?_
      refine fs_iload_n (k := 2) (p := 31) (by decide +kernel) rfl rfl ?_
      have h := Option.some.inj h
      subst h
      exact fs_iret (by decide +kernel) rt_76
    · rw [if_neg c2] at h
      refine fs_icmp_ge_f (off := 23) (t := 30) (p := 10) (by decide +kernel) (by decide +kernel) rfl c2 ?_
      refine fs_iload_n (k := 2) (p := 11) (by decide +kernel) rfl rfl ?_
      refine fs_aload_n (k := 0) (p := 12) (by decide +kernel) rfl rfl ?_
      refine fs_gfr (idx := 33) (ci := 7) (j := 7) (p := 15) (by decide +kernel) rfl (by decide +kernel) g0 (fr_7_7 g0) ?_
      refine fs_iload_n (k := 3) (p := 16) (by decide +kernel) rfl rfl ?_
      refine fs_bipush (n := 9) (p := 18) (by decide +kernel) rfl kb_9 ?_
      refine fs_imul (p := 19) (by decide +kernel) rfl ?_
      refine fs_iload_n (k := 1) (p := 20) (by decide +kernel) rfl rfl ?_
      refine fs_iadd (p := 21) (by decide +kernel) rfl ?_
      obtain ⟨v3, w4, h⟩ := fx_bd h
      refine fs_iaload (p := 22) (by decide +kernel) rfl w4 ?_
      refine fs_iadd (p := 23) (by decide +kernel) rfl ?_
      refine fs_istore_n (k := 2) (p := 24) (M := 4) (al' := [some (.ref x0), some (.int x1), some (.int (x2 + v3)), some (.int x3)]) (by decide +kernel) rfl mx_76 rfl rfl ?_
      refine fs_iinc (k := 3) (n := 1) (p := 27) (M := 4) (al' := [some (.ref x0), some (.int x1), some (.int (x2 + v3)), some (.int (x3 + (1 : Int32)))]) (by decide +kernel) rfl kc_1 mx_76 rfl rfl rfl ?_
      refine fs_goto (off := -23) (p := 4) (by decide +kernel) (by decide +kernel) ?_
      exact ih _ _ _ _ _ _ g0 h
def fm_76 (x0 : Nat) (x1 : Int32) (σ : fx_S) : Option (Int32 × fx_S) :=
  if fx_oc x0 7 = true then (
  fm_76_4 100000 x0 x1 (0 : Int32) (0 : Int32) σ) else none
theorem fe_76 {d : Nat} (hd : 0 ≤ d) {x0 : Nat} {x1 : Int32} {σ : fx_S} {q : Int32 × fx_S} (h : fm_76 x0 x1 σ = some q) : fx_E none 76 d 0 [some (.ref x0), some (.int x1), none, none] [] σ (some (.int q.1)) q.2 := by
  unfold fm_76 at h
  obtain ⟨g0, h⟩ := fx_gd h
  refine fs_iconst (n := 0) (p := 1) (by decide +kernel) rfl kc_0 ?_
  refine fs_istore_n (k := 2) (p := 2) (M := 4) (al' := [some (.ref x0), some (.int x1), some (.int (0 : Int32)), none]) (by decide +kernel) rfl mx_76 rfl rfl ?_
  refine fs_iconst (n := 0) (p := 3) (by decide +kernel) rfl kc_0 ?_
  refine fs_istore_n (k := 3) (p := 4) (M := 4) (al' := [some (.ref x0), some (.int x1), some (.int (0 : Int32)), some (.int (0 : Int32))]) (by decide +kernel) rfl mx_76 rfl rfl ?_
  exact fe_76_4 hd 100000 _ _ _ _ _ _ g0 h

/-! ZoneShares$Table.floorsOf(I)I -/
theorem mx_77 : iv_mx 77 = 4 := by decide +kernel
theorem rt_77 : iv_rt 77 = some .int := by decide +kernel
def fm_77_4 : Nat → Nat → Int32 → Int32 → Int32 → fx_S → Option (Int32 × fx_S)
  | 0, _, _, _, _, _ => none
  | n + 1, x0, x1, x2, x3, σ =>
    if (8 : Int32) ≤ x3 then (
      some (x2, σ)) else (
      (fx_ld σ (x0 + 6) ((x3 * (9 : Int32)) + x1)).bind fun v3 =>
      fm_77_4 n x0 x1 (x2 + v3) (x3 + (1 : Int32)) σ)
theorem fe_77_4 {d : Nat} (hd : 0 ≤ d) : ∀ (n : Nat) (x0 : Nat) (x1 : Int32) (x2 : Int32) (x3 : Int32) (σ : fx_S) (q : Int32 × fx_S) (g0 : fx_oc x0 7 = true), fm_77_4 n x0 x1 x2 x3 σ = some q → fx_E none 77 d 4 [some (.ref x0), some (.int x1), some (.int x2), some (.int x3)] [] σ (some (.int q.1)) q.2 := by
  intro n
  induction n with
  | zero =>
    intro x0 x1 x2 x3 σ q g0 h
    rw [fm_77_4] at h
    exact fx_no h
  | succ n ih =>
    intro x0 x1 x2 x3 σ q g0 h
    rw [fm_77_4] at h
    refine fs_iload_n (k := 3) (p := 5) (by decide +kernel) rfl rfl ?_
    refine fs_bipush (n := 8) (p := 7) (by decide +kernel) rfl kb_8 ?_
    by_cases c2 : (8 : Int32) ≤ x3
    · rw [if_pos c2] at h
      refine fs_icmp_ge_t (off := 23) (t := 30) (by decide +kernel) (by decide +kernel) c2 ?_
      refine fs_iload_n (k := 2) (p := 31) (by decide +kernel) rfl rfl ?_
      have h := Option.some.inj h
      subst h
      exact fs_iret (by decide +kernel) rt_77
    · rw [if_neg c2] at h
      refine fs_icmp_ge_f (off := 23) (t := 30) (p := 10) (by decide +kernel) (by decide +kernel) rfl c2 ?_
      refine fs_iload_n (k := 2) (p := 11) (by decide +kernel) rfl rfl ?_
      refine fs_aload_n (k := 0) (p := 12) (by decide +kernel) rfl rfl ?_
      refine fs_gfr (idx := 27) (ci := 7) (j := 5) (p := 15) (by decide +kernel) rfl (by decide +kernel) g0 (fr_7_5 g0) ?_
      refine fs_iload_n (k := 3) (p := 16) (by decide +kernel) rfl rfl ?_
      refine fs_bipush (n := 9) (p := 18) (by decide +kernel) rfl kb_9 ?_
      refine fs_imul (p := 19) (by decide +kernel) rfl ?_
      refine fs_iload_n (k := 1) (p := 20) (by decide +kernel) rfl rfl ?_
      refine fs_iadd (p := 21) (by decide +kernel) rfl ?_
      obtain ⟨v3, w4, h⟩ := fx_bd h
      refine fs_iaload (p := 22) (by decide +kernel) rfl w4 ?_
      refine fs_iadd (p := 23) (by decide +kernel) rfl ?_
      refine fs_istore_n (k := 2) (p := 24) (M := 4) (al' := [some (.ref x0), some (.int x1), some (.int (x2 + v3)), some (.int x3)]) (by decide +kernel) rfl mx_77 rfl rfl ?_
      refine fs_iinc (k := 3) (n := 1) (p := 27) (M := 4) (al' := [some (.ref x0), some (.int x1), some (.int (x2 + v3)), some (.int (x3 + (1 : Int32)))]) (by decide +kernel) rfl kc_1 mx_77 rfl rfl rfl ?_
      refine fs_goto (off := -23) (p := 4) (by decide +kernel) (by decide +kernel) ?_
      exact ih _ _ _ _ _ _ g0 h
def fm_77 (x0 : Nat) (x1 : Int32) (σ : fx_S) : Option (Int32 × fx_S) :=
  if fx_oc x0 7 = true then (
  fm_77_4 100000 x0 x1 (0 : Int32) (0 : Int32) σ) else none
theorem fe_77 {d : Nat} (hd : 0 ≤ d) {x0 : Nat} {x1 : Int32} {σ : fx_S} {q : Int32 × fx_S} (h : fm_77 x0 x1 σ = some q) : fx_E none 77 d 0 [some (.ref x0), some (.int x1), none, none] [] σ (some (.int q.1)) q.2 := by
  unfold fm_77 at h
  obtain ⟨g0, h⟩ := fx_gd h
  refine fs_iconst (n := 0) (p := 1) (by decide +kernel) rfl kc_0 ?_
  refine fs_istore_n (k := 2) (p := 2) (M := 4) (al' := [some (.ref x0), some (.int x1), some (.int (0 : Int32)), none]) (by decide +kernel) rfl mx_77 rfl rfl ?_
  refine fs_iconst (n := 0) (p := 3) (by decide +kernel) rfl kc_0 ?_
  refine fs_istore_n (k := 3) (p := 4) (M := 4) (al' := [some (.ref x0), some (.int x1), some (.int (0 : Int32)), some (.int (0 : Int32))]) (by decide +kernel) rfl mx_77 rfl rfl ?_
  exact fe_77_4 hd 100000 _ _ _ _ _ _ g0 h

/-! ZoneShares$Table.restsOf(IJ)J -/
theorem mx_79 : iv_mx 79 = 7 := by decide +kernel
theorem rt_79 : iv_rt 79 = some .long := by decide +kernel
def fm_79_52 (k_6 : Nat → Int32 → Int64 → Int64 → Int32 → fx_S → Option (Int64 × fx_S)) (x0 : Nat) (x1 : Int32) (x2 : Int64) (x4 : Int64) (x6 : Int32) (σ : fx_S) : Option (Int64 × fx_S) :=
  k_6 x0 x1 x2 x4 (x6 + (1 : Int32)) σ
theorem fe_79_52 {d : Nat} (hd : 0 ≤ d) {k_6 : Nat → Int32 → Int64 → Int64 → Int32 → fx_S → Option (Int64 × fx_S)} (hk_6 : ∀ (x0 : Nat) (x1 : Int32) (x2 : Int64) (x4 : Int64) (x6 : Int32) (σ : fx_S) (q : Int64 × fx_S) (g0 : fx_oc x0 7 = true), k_6 x0 x1 x2 x4 x6 σ = some q → fx_E none 79 d 6 [some (.ref x0), some (.int x1), some (.long x2), none, some (.long x4), none, some (.int x6)] [] σ (some (.long q.1)) q.2) (x0 : Nat) (x1 : Int32) (x2 : Int64) (x4 : Int64) (x6 : Int32) (σ : fx_S) (q : Int64 × fx_S) (g0 : fx_oc x0 7 = true) (h : fm_79_52 k_6  x0 x1 x2 x4 x6 σ = some q) : fx_E none 79 d 52 [some (.ref x0), some (.int x1), some (.long x2), none, some (.long x4), none, some (.int x6)] [] σ (some (.long q.1)) q.2 := by
  unfold fm_79_52 at h
  refine fs_iinc (k := 6) (n := 1) (p := 55) (M := 7) (al' := [some (.ref x0), some (.int x1), some (.long x2), none, some (.long x4), none, some (.int (x6 + (1 : Int32)))]) (by decide +kernel) rfl kc_1 mx_79 rfl rfl rfl ?_
  refine fs_goto (off := -49) (p := 6) (by decide +kernel) (by decide +kernel) ?_
  exact hk_6 _ _ _ _ _ _ _ g0 h
def fm_79_6 : Nat → Nat → Int32 → Int64 → Int64 → Int32 → fx_S → Option (Int64 × fx_S)
  | 0, _, _, _, _, _, _ => none
  | n + 1, x0, x1, x2, x4, x6, σ =>
    if (8 : Int32) ≤ x6 then (
      some (x4, σ)) else (
      (fx_ld σ (x0 + 2) x6).bind fun v3 =>
      if v3 ≤ 0 then (
        fm_79_52 (fm_79_6 n) x0 x1 x2 x4 x6 σ) else (
        (fx_ld σ (x0 + 7) ((x6 * (9 : Int32)) + x1)).bind fun v8 =>
        (fx_ld σ (x0 + 2) x6).bind fun v12 =>
        if ¬ (v12).toInt64 = 0 then (
        fm_79_52 (fm_79_6 n) x0 x1 x2 (x4 + ((v8).toInt64 * (x2 / (v12).toInt64))) x6 σ) else none))
theorem fe_79_6 {d : Nat} (hd : 0 ≤ d) : ∀ (n : Nat) (x0 : Nat) (x1 : Int32) (x2 : Int64) (x4 : Int64) (x6 : Int32) (σ : fx_S) (q : Int64 × fx_S) (g0 : fx_oc x0 7 = true), fm_79_6 n x0 x1 x2 x4 x6 σ = some q → fx_E none 79 d 6 [some (.ref x0), some (.int x1), some (.long x2), none, some (.long x4), none, some (.int x6)] [] σ (some (.long q.1)) q.2 := by
  intro n
  induction n with
  | zero =>
    intro x0 x1 x2 x4 x6 σ q g0 h
    rw [fm_79_6] at h
    exact fx_no h
  | succ n ih =>
    intro x0 x1 x2 x4 x6 σ q g0 h
    rw [fm_79_6] at h
    refine fs_iload (k := 6) (p := 8) (by decide +kernel) rfl rfl ?_
    refine fs_bipush (n := 8) (p := 10) (by decide +kernel) rfl kb_8 ?_
    by_cases c2 : (8 : Int32) ≤ x6
    · rw [if_pos c2] at h
      refine fs_icmp_ge_t (off := 48) (t := 58) (by decide +kernel) (by decide +kernel) c2 ?_
      refine fs_lload (k := 4) (p := 60) (by decide +kernel) rfl rfl ?_
      have h := Option.some.inj h
      subst h
      exact fs_lret (by decide +kernel) rt_79
    · rw [if_neg c2] at h
      refine fs_icmp_ge_f (off := 48) (t := 58) (p := 13) (by decide +kernel) (by decide +kernel) rfl c2 ?_
      refine fs_aload_n (k := 0) (p := 14) (by decide +kernel) rfl rfl ?_
      refine fs_gfr (idx := 15) (ci := 7) (j := 1) (p := 17) (by decide +kernel) rfl (by decide +kernel) g0 (fr_7_1 g0) ?_
      refine fs_iload (k := 6) (p := 19) (by decide +kernel) rfl rfl ?_
      obtain ⟨v3, w4, h⟩ := fx_bd h
      refine fs_iaload (p := 20) (by decide +kernel) rfl w4 ?_
      by_cases c7 : v3 ≤ 0
      · rw [if_pos c7] at h
        refine fs_if_le_t (off := 32) (t := 52) (by decide +kernel) (by decide +kernel) c7 ?_
        exact fe_79_52 hd ih _ _ _ _ _ _ _ g0 h
      · rw [if_neg c7] at h
        refine fs_if_le_f (off := 32) (t := 52) (p := 23) (by decide +kernel) (by decide +kernel) rfl c7 ?_
        refine fs_lload (k := 4) (p := 25) (by decide +kernel) rfl rfl ?_
        refine fs_aload_n (k := 0) (p := 26) (by decide +kernel) rfl rfl ?_
        refine fs_gfr (idx := 30) (ci := 7) (j := 6) (p := 29) (by decide +kernel) rfl (by decide +kernel) g0 (fr_7_6 g0) ?_
        refine fs_iload (k := 6) (p := 31) (by decide +kernel) rfl rfl ?_
        refine fs_bipush (n := 9) (p := 33) (by decide +kernel) rfl kb_9 ?_
        refine fs_imul (p := 34) (by decide +kernel) rfl ?_
        refine fs_iload_n (k := 1) (p := 35) (by decide +kernel) rfl rfl ?_
        refine fs_iadd (p := 36) (by decide +kernel) rfl ?_
        obtain ⟨v8, w9, h⟩ := fx_bd h
        refine fs_iaload (p := 37) (by decide +kernel) rfl w9 ?_
        refine fs_i2l (p := 38) (by decide +kernel) rfl ?_
        refine fs_lload_n (k := 2) (p := 39) (by decide +kernel) rfl rfl ?_
        refine fs_aload_n (k := 0) (p := 40) (by decide +kernel) rfl rfl ?_
        refine fs_gfr (idx := 15) (ci := 7) (j := 1) (p := 43) (by decide +kernel) rfl (by decide +kernel) g0 (fr_7_1 g0) ?_
        refine fs_iload (k := 6) (p := 45) (by decide +kernel) rfl rfl ?_
        obtain ⟨v12, w13, h⟩ := fx_bd h
        refine fs_iaload (p := 46) (by decide +kernel) rfl w13 ?_
        refine fs_i2l (p := 47) (by decide +kernel) rfl ?_
        obtain ⟨z15, h⟩ := fx_gd h
        refine fs_ldiv (p := 48) (by decide +kernel) rfl z15 ?_
        refine fs_lmul (p := 49) (by decide +kernel) rfl ?_
        refine fs_ladd (p := 50) (by decide +kernel) rfl ?_
        refine fs_lstore (k := 4) (p := 52) (M := 7) (al' := [some (.ref x0), some (.int x1), some (.long x2), none, some (.long (x4 + ((v8).toInt64 * (x2 / (v12).toInt64)))), none, some (.int x6)]) (by decide +kernel) rfl mx_79 rfl rfl ?_
        exact fe_79_52 hd ih _ _ _ _ _ _ _ g0 h
def fm_79 (x0 : Nat) (x1 : Int32) (x2 : Int64) (σ : fx_S) : Option (Int64 × fx_S) :=
  if fx_oc x0 7 = true then (
  fm_79_6 100000 x0 x1 x2 (0 : Int64) (0 : Int32) σ) else none
theorem fe_79 {d : Nat} (hd : 0 ≤ d) {x0 : Nat} {x1 : Int32} {x2 : Int64} {σ : fx_S} {q : Int64 × fx_S} (h : fm_79 x0 x1 x2 σ = some q) : fx_E none 79 d 0 [some (.ref x0), some (.int x1), some (.long x2), none, none, none, none] [] σ (some (.long q.1)) q.2 := by
  unfold fm_79 at h
  obtain ⟨g0, h⟩ := fx_gd h
  refine fs_lconst (n := 0) (p := 1) (by decide +kernel) rfl kl_0 ?_
  refine fs_lstore (k := 4) (p := 3) (M := 7) (al' := [some (.ref x0), some (.int x1), some (.long x2), none, some (.long (0 : Int64)), none, none]) (by decide +kernel) rfl mx_79 rfl rfl ?_
  refine fs_iconst (n := 0) (p := 4) (by decide +kernel) rfl kc_0 ?_
  refine fs_istore (k := 6) (p := 6) (M := 7) (al' := [some (.ref x0), some (.int x1), some (.long x2), none, some (.long (0 : Int64)), none, some (.int (0 : Int32))]) (by decide +kernel) rfl mx_79 rfl rfl ?_
  exact fe_79_6 hd 100000 _ _ _ _ _ _ _ g0 h

/-! ZoneShares$Table.offBy(I)J -/
theorem mx_80 : iv_mx 80 = 3 := by decide +kernel
theorem rt_80 : iv_rt 80 = some .long := by decide +kernel
def fm_80 (x0 : Nat) (x1 : Int32) (σ : fx_S) : Option (Int64 × fx_S) :=
  if fx_oc x0 7 = true then (
  (fx_ld σ (x0 + 8) x1).bind fun v18 =>
  (fx_ld σ (x0 + 2) (x1 / (9 : Int32))).bind fun v22 =>
  (fx_ld σ (x0 + 1) (x1 / (9 : Int32))).bind fun v26 =>
  (fx_ld σ (x0 + 4) x1).bind fun v29 =>
  some ((if 0 < (((v18).toInt64 * (v22).toInt64) - ((v26).toInt64 * (v29).toInt64)) then (((v18).toInt64 * (v22).toInt64) - ((v26).toInt64 * (v29).toInt64)) else -(((v18).toInt64 * (v22).toInt64) - ((v26).toInt64 * (v29).toInt64))), σ)) else none
theorem fe_80 {d : Nat} (hd : 0 ≤ d) {x0 : Nat} {x1 : Int32} {σ : fx_S} {q : Int64 × fx_S} (h : fm_80 x0 x1 σ = some q) : fx_E none 80 d 0 [some (.ref x0), some (.int x1), none] [] σ (some (.long q.1)) q.2 := by
  unfold fm_80 at h
  obtain ⟨g0, h⟩ := fx_gd h
  refine fs_iload_n (k := 1) (p := 1) (by decide +kernel) rfl rfl ?_
  refine fs_bipush (n := 9) (p := 3) (by decide +kernel) rfl kb_9 ?_
  refine fs_idiv (p := 4) (by decide +kernel) rfl (by decide) ?_
  refine fs_istore_n (k := 2) (p := 5) (M := 3) (al' := [some (.ref x0), some (.int x1), some (.int (x1 / (9 : Int32)))]) (by decide +kernel) rfl mx_80 rfl rfl ?_
  refine fs_aload_n (k := 0) (p := 6) (by decide +kernel) rfl rfl ?_
  refine fs_gfr (idx := 33) (ci := 7) (j := 7) (p := 9) (by decide +kernel) rfl (by decide +kernel) g0 (fr_7_7 g0) ?_
  refine fs_iload_n (k := 1) (p := 10) (by decide +kernel) rfl rfl ?_
  obtain ⟨v18, w19, h⟩ := fx_bd h
  refine fs_iaload (p := 11) (by decide +kernel) rfl w19 ?_
  refine fs_i2l (p := 12) (by decide +kernel) rfl ?_
  refine fs_aload_n (k := 0) (p := 13) (by decide +kernel) rfl rfl ?_
  refine fs_gfr (idx := 15) (ci := 7) (j := 1) (p := 16) (by decide +kernel) rfl (by decide +kernel) g0 (fr_7_1 g0) ?_
  refine fs_iload_n (k := 2) (p := 17) (by decide +kernel) rfl rfl ?_
  obtain ⟨v22, w23, h⟩ := fx_bd h
  refine fs_iaload (p := 18) (by decide +kernel) rfl w23 ?_
  refine fs_i2l (p := 19) (by decide +kernel) rfl ?_
  refine fs_lmul (p := 20) (by decide +kernel) rfl ?_
  refine fs_aload_n (k := 0) (p := 21) (by decide +kernel) rfl rfl ?_
  refine fs_gfr (idx := 9) (ci := 7) (j := 0) (p := 24) (by decide +kernel) rfl (by decide +kernel) g0 (fr_7_0 g0) ?_
  refine fs_iload_n (k := 2) (p := 25) (by decide +kernel) rfl rfl ?_
  obtain ⟨v26, w27, h⟩ := fx_bd h
  refine fs_iaload (p := 26) (by decide +kernel) rfl w27 ?_
  refine fs_i2l (p := 27) (by decide +kernel) rfl ?_
  refine fs_aload_n (k := 0) (p := 28) (by decide +kernel) rfl rfl ?_
  refine fs_gfr (idx := 21) (ci := 7) (j := 3) (p := 31) (by decide +kernel) rfl (by decide +kernel) g0 (fr_7_3 g0) ?_
  refine fs_iload_n (k := 1) (p := 32) (by decide +kernel) rfl rfl ?_
  obtain ⟨v29, w30, h⟩ := fx_bd h
  refine fs_iaload (p := 33) (by decide +kernel) rfl w30 ?_
  refine fs_i2l (p := 34) (by decide +kernel) rfl ?_
  refine fs_lmul (p := 35) (by decide +kernel) rfl ?_
  refine fs_lsub (p := 36) (by decide +kernel) rfl ?_
  refine fs_abl (idx := 68) (p := 39) (by decide +kernel) rfl (by decide +kernel) rfl ?_
  have h := Option.some.inj h
  subst h
  exact fs_lret (by decide +kernel) rt_80

/-! ZoneShares$Tape.put(I)V -/
theorem mx_82 : iv_mx 82 = 3 := by decide +kernel
theorem rt_82 : iv_rt 82 = none := by decide +kernel
def fm_82_3 : Nat → Int32 → Int32 → fx_S → Option (fx_S)
  | 0, _, _, _ => none
  | n + 1, x1, x2, σ =>
    if x2 < 0 then (
      some σ) else (
      if (200 : Int32) ≤ (σ.1 14 1) then (
        some σ) else (
        (fx_st σ 15 (σ.1 14 1) (((x1).toUInt32 >>> ((x2).toUInt32 &&& Int32.toUInt32 31)).toInt32 &&& (255 : Int32))).bind fun t5 =>
        fm_82_3 n x1 (x2 + (-8 : Int32)) (fx_w1 t5 14 1 ((t5.1 14 1) + (1 : Int32)))))
theorem fe_82_3 {d : Nat} (hd : 0 ≤ d) : ∀ (n : Nat) (x1 : Int32) (x2 : Int32) (σ : fx_S) (q : fx_S), fm_82_3 n x1 x2 σ = some q → fx_E none 82 d 3 [some (.ref 14), some (.int x1), some (.int x2)] [] σ none q := by
  intro n
  induction n with
  | zero =>
    intro x1 x2 σ q  h
    rw [fm_82_3] at h
    exact fx_no h
  | succ n ih =>
    intro x1 x2 σ q  h
    rw [fm_82_3] at h
    refine fs_iload_n (k := 2) (p := 4) (by decide +kernel) rfl rfl ?_
    by_cases c2 : x2 < 0
    · rw [if_pos c2] at h
      refine fs_if_lt_t (off := 45) (t := 49) (by decide +kernel) (by decide +kernel) c2 ?_
      have h := Option.some.inj h
      subst h
      exact fs_ret (by decide +kernel) rt_82
    · rw [if_neg c2] at h
      refine fs_if_lt_f (off := 45) (t := 49) (p := 7) (by decide +kernel) (by decide +kernel) rfl c2 ?_
      refine fs_aload_n (k := 0) (p := 8) (by decide +kernel) rfl rfl ?_
      refine fs_gfi (idx := 15) (ci := 8) (j := 1) (p := 11) (by decide +kernel) rfl (by decide +kernel) fo_14 ?_
      refine fs_sipush (n := 200) (p := 14) (by decide +kernel) rfl ks_200 ?_
      by_cases c4 : (200 : Int32) ≤ (σ.1 14 1)
      · rw [if_pos c4] at h
        refine fs_icmp_ge_t (off := 35) (t := 49) (by decide +kernel) (by decide +kernel) c4 ?_
        have h := Option.some.inj h
        subst h
        exact fs_ret (by decide +kernel) rt_82
      · rw [if_neg c4] at h
        refine fs_icmp_ge_f (off := 35) (t := 49) (p := 17) (by decide +kernel) (by decide +kernel) rfl c4 ?_
        refine fs_aload_n (k := 0) (p := 18) (by decide +kernel) rfl rfl ?_
        refine fs_gfr (idx := 9) (ci := 8) (j := 0) (p := 21) (by decide +kernel) rfl (by decide +kernel) fo_14 (fr_a14_0) ?_
        refine fs_aload_n (k := 0) (p := 22) (by decide +kernel) rfl rfl ?_
        refine fs_gfi (idx := 15) (ci := 8) (j := 1) (p := 25) (by decide +kernel) rfl (by decide +kernel) fo_14 ?_
        refine fs_iload_n (k := 1) (p := 26) (by decide +kernel) rfl rfl ?_
        refine fs_iload_n (k := 2) (p := 27) (by decide +kernel) rfl rfl ?_
        refine fs_iushr (p := 28) (by decide +kernel) rfl ?_
        refine fs_sipush (n := 255) (p := 31) (by decide +kernel) rfl ks_255 ?_
        refine fs_iand (p := 32) (by decide +kernel) rfl ?_
        obtain ⟨t5, w6, h⟩ := fx_bd h
        refine fs_iastore (p := 33) (by decide +kernel) rfl w6 ?_
        refine fs_aload_n (k := 0) (p := 34) (by decide +kernel) rfl rfl ?_
        refine fs_dup (p := 35) (by decide +kernel) rfl rfl ?_
        refine fs_gfi (idx := 15) (ci := 8) (j := 1) (p := 38) (by decide +kernel) rfl (by decide +kernel) fo_14 ?_
        refine fs_iconst (n := 1) (p := 39) (by decide +kernel) rfl kc_1 ?_
        refine fs_iadd (p := 40) (by decide +kernel) rfl ?_
        refine fs_pfi (idx := 15) (ci := 8) (j := 1) (p := 43) (by decide +kernel) rfl (by decide +kernel) (by decide +kernel) fo_14 (fx_oki _ (by decide +kernel)) ?_
        refine fs_iinc (k := 2) (n := -8) (p := 46) (M := 3) (al' := [some (.ref 14), some (.int x1), some (.int (x2 + (-8 : Int32)))]) (by decide +kernel) rfl kc_m8 mx_82 rfl rfl rfl ?_
        refine fs_goto (off := -43) (p := 3) (by decide +kernel) (by decide +kernel) ?_
        exact ih _ _ _ _ h
def fm_82 (x1 : Int32) (σ : fx_S) : Option (fx_S) :=
  fm_82_3 100000 x1 (24 : Int32) σ
theorem fe_82 {d : Nat} (hd : 0 ≤ d) {x1 : Int32} {σ : fx_S} {q : fx_S} (h : fm_82 x1 σ = some q) : fx_E none 82 d 0 [some (.ref 14), some (.int x1), none] [] σ none q := by
  unfold fm_82 at h
  refine fs_bipush (n := 24) (p := 2) (by decide +kernel) rfl kb_24 ?_
  refine fs_istore_n (k := 2) (p := 3) (M := 3) (al' := [some (.ref 14), some (.int x1), some (.int (24 : Int32))]) (by decide +kernel) rfl mx_82 rfl rfl ?_
  exact fe_82_3 hd 100000 _ _ _ _ h

/-! ZoneShares$Tape.at(I)I -/
theorem mx_83 : iv_mx 83 = 2 := by decide +kernel
theorem rt_83 : iv_rt 83 = some .int := by decide +kernel
def fm_83 (x1 : Int32) (σ : fx_S) : Option (Int32 × fx_S) :=
  if x1 < 0 then (
    some ((-1 : Int32), σ)) else (
    if (σ.1 14 1) ≤ x1 then (
      some ((-1 : Int32), σ)) else (
      (fx_ld σ 15 x1).bind fun v12 =>
      some (v12, σ)))
theorem fe_83 {d : Nat} (hd : 0 ≤ d) {x1 : Int32} {σ : fx_S} {q : Int32 × fx_S} (h : fm_83 x1 σ = some q) : fx_E none 83 d 0 [some (.ref 14), some (.int x1)] [] σ (some (.int q.1)) q.2 := by
  unfold fm_83 at h
  refine fs_iload_n (k := 1) (p := 1) (by decide +kernel) rfl rfl ?_
  by_cases c9 : x1 < 0
  · rw [if_pos c9] at h
    refine fs_if_lt_t (off := 20) (t := 21) (by decide +kernel) (by decide +kernel) c9 ?_
    refine fs_iconst (n := -1) (p := 22) (by decide +kernel) rfl kc_m1 ?_
    have h := Option.some.inj h
    subst h
    exact fs_iret (by decide +kernel) rt_83
  · rw [if_neg c9] at h
    refine fs_if_lt_f (off := 20) (t := 21) (p := 4) (by decide +kernel) (by decide +kernel) rfl c9 ?_
    refine fs_iload_n (k := 1) (p := 5) (by decide +kernel) rfl rfl ?_
    refine fs_aload_n (k := 0) (p := 6) (by decide +kernel) rfl rfl ?_
    refine fs_gfi (idx := 15) (ci := 8) (j := 1) (p := 9) (by decide +kernel) rfl (by decide +kernel) fo_14 ?_
    by_cases c11 : (σ.1 14 1) ≤ x1
    · rw [if_pos c11] at h
      refine fs_icmp_ge_t (off := 12) (t := 21) (by decide +kernel) (by decide +kernel) c11 ?_
      refine fs_iconst (n := -1) (p := 22) (by decide +kernel) rfl kc_m1 ?_
      have h := Option.some.inj h
      subst h
      exact fs_iret (by decide +kernel) rt_83
    · rw [if_neg c11] at h
      refine fs_icmp_ge_f (off := 12) (t := 21) (p := 12) (by decide +kernel) (by decide +kernel) rfl c11 ?_
      refine fs_aload_n (k := 0) (p := 13) (by decide +kernel) rfl rfl ?_
      refine fs_gfr (idx := 9) (ci := 8) (j := 0) (p := 16) (by decide +kernel) rfl (by decide +kernel) fo_14 (fr_a14_0) ?_
      refine fs_iload_n (k := 1) (p := 17) (by decide +kernel) rfl rfl ?_
      obtain ⟨v12, w13, h⟩ := fx_bd h
      refine fs_iaload (p := 18) (by decide +kernel) rfl w13 ?_
      refine fs_goto (off := 4) (p := 22) (by decide +kernel) (by decide +kernel) ?_
      have h := Option.some.inj h
      subst h
      exact fs_iret (by decide +kernel) rt_83

/-! ZoneShares.feed(IIIII)I -/
theorem mx_85 : iv_mx 85 = 6 := by decide +kernel
theorem rt_85 : iv_rt 85 = some .int := by decide +kernel
def fm_85 (x1 : Int32) (x2 : Int32) (x3 : Int32) (x4 : Int32) (x5 : Int32) (σ : fx_S) : Option (Int32 × fx_S) :=
  if ((σ.1 14 1) + (20 : Int32)) ≤ (200 : Int32) then (
    (fm_82 x1 σ).bind fun q16 =>
    (fm_82 x2 q16).bind fun q18 =>
    (fm_82 x3 q18).bind fun q20 =>
    (fm_82 x4 q20).bind fun q22 =>
    (fm_82 x5 q22).bind fun q24 =>
    some ((q24.1 14 1), q24)) else (
    some ((-1 : Int32), σ))
theorem fe_85 {d : Nat} (hd : 1 ≤ d) {x1 : Int32} {x2 : Int32} {x3 : Int32} {x4 : Int32} {x5 : Int32} {σ : fx_S} {q : Int32 × fx_S} (h : fm_85 x1 x2 x3 x4 x5 σ = some q) : fx_E none 85 d 0 [some (.ref 0), some (.int x1), some (.int x2), some (.int x3), some (.int x4), some (.int x5)] [] σ (some (.int q.1)) q.2 := by
  unfold fm_85 at h
  refine fs_aload_n (k := 0) (p := 1) (by decide +kernel) rfl rfl ?_
  refine fs_gfr (idx := 22) (ci := 9) (j := 0) (p := 4) (by decide +kernel) rfl (by decide +kernel) fo_0 (fr_a0_0) ?_
  refine fs_gfi (idx := 67) (ci := 8) (j := 1) (p := 7) (by decide +kernel) rfl (by decide +kernel) fo_14 ?_
  refine fs_bipush (n := 20) (p := 9) (by decide +kernel) rfl kb_20 ?_
  refine fs_iadd (p := 10) (by decide +kernel) rfl ?_
  refine fs_sipush (n := 200) (p := 13) (by decide +kernel) rfl ks_200 ?_
  by_cases c14 : ((σ.1 14 1) + (20 : Int32)) ≤ (200 : Int32)
  · rw [if_pos c14] at h
    refine fs_icmp_le_t (off := 5) (t := 18) (by decide +kernel) (by decide +kernel) c14 ?_
    refine fs_aload_n (k := 0) (p := 19) (by decide +kernel) rfl rfl ?_
    refine fs_gfr (idx := 22) (ci := 9) (j := 0) (p := 22) (by decide +kernel) rfl (by decide +kernel) fo_0 (fr_a0_0) ?_
    refine fs_iload_n (k := 1) (p := 23) (by decide +kernel) rfl rfl ?_
    obtain ⟨q16, w15, h⟩ := fx_bd h
    refine fs_callV (idx := 71) (mj := 82) (ci := 8) (na := 1) (mx := 3) (p := 26) (args := [.ref 14, .int x1]) (rest := []) (al2 := [some (.ref 14), some (.int x1), none]) (by decide +kernel) rfl (by decide +kernel) fo_14 rfl rfl rfl rfl rfl rfl rfl (by omega) (fun d' hd' => fe_82 (by omega) w15) rfl ?_
    refine fs_aload_n (k := 0) (p := 27) (by decide +kernel) rfl rfl ?_
    refine fs_gfr (idx := 22) (ci := 9) (j := 0) (p := 30) (by decide +kernel) rfl (by decide +kernel) fo_0 (fr_a0_0) ?_
    refine fs_iload_n (k := 2) (p := 31) (by decide +kernel) rfl rfl ?_
    obtain ⟨q18, w17, h⟩ := fx_bd h
    refine fs_callV (idx := 71) (mj := 82) (ci := 8) (na := 1) (mx := 3) (p := 34) (args := [.ref 14, .int x2]) (rest := []) (al2 := [some (.ref 14), some (.int x2), none]) (by decide +kernel) rfl (by decide +kernel) fo_14 rfl rfl rfl rfl rfl rfl rfl (by omega) (fun d' hd' => fe_82 (by omega) w17) rfl ?_
    refine fs_aload_n (k := 0) (p := 35) (by decide +kernel) rfl rfl ?_
    refine fs_gfr (idx := 22) (ci := 9) (j := 0) (p := 38) (by decide +kernel) rfl (by decide +kernel) fo_0 (fr_a0_0) ?_
    refine fs_iload_n (k := 3) (p := 39) (by decide +kernel) rfl rfl ?_
    obtain ⟨q20, w19, h⟩ := fx_bd h
    refine fs_callV (idx := 71) (mj := 82) (ci := 8) (na := 1) (mx := 3) (p := 42) (args := [.ref 14, .int x3]) (rest := []) (al2 := [some (.ref 14), some (.int x3), none]) (by decide +kernel) rfl (by decide +kernel) fo_14 rfl rfl rfl rfl rfl rfl rfl (by omega) (fun d' hd' => fe_82 (by omega) w19) rfl ?_
    refine fs_aload_n (k := 0) (p := 43) (by decide +kernel) rfl rfl ?_
    refine fs_gfr (idx := 22) (ci := 9) (j := 0) (p := 46) (by decide +kernel) rfl (by decide +kernel) fo_0 (fr_a0_0) ?_
    refine fs_iload (k := 4) (p := 48) (by decide +kernel) rfl rfl ?_
    obtain ⟨q22, w21, h⟩ := fx_bd h
    refine fs_callV (idx := 71) (mj := 82) (ci := 8) (na := 1) (mx := 3) (p := 51) (args := [.ref 14, .int x4]) (rest := []) (al2 := [some (.ref 14), some (.int x4), none]) (by decide +kernel) rfl (by decide +kernel) fo_14 rfl rfl rfl rfl rfl rfl rfl (by omega) (fun d' hd' => fe_82 (by omega) w21) rfl ?_
    refine fs_aload_n (k := 0) (p := 52) (by decide +kernel) rfl rfl ?_
    refine fs_gfr (idx := 22) (ci := 9) (j := 0) (p := 55) (by decide +kernel) rfl (by decide +kernel) fo_0 (fr_a0_0) ?_
    refine fs_iload (k := 5) (p := 57) (by decide +kernel) rfl rfl ?_
    obtain ⟨q24, w23, h⟩ := fx_bd h
    refine fs_callV (idx := 71) (mj := 82) (ci := 8) (na := 1) (mx := 3) (p := 60) (args := [.ref 14, .int x5]) (rest := []) (al2 := [some (.ref 14), some (.int x5), none]) (by decide +kernel) rfl (by decide +kernel) fo_14 rfl rfl rfl rfl rfl rfl rfl (by omega) (fun d' hd' => fe_82 (by omega) w23) rfl ?_
    refine fs_aload_n (k := 0) (p := 61) (by decide +kernel) rfl rfl ?_
    refine fs_gfr (idx := 22) (ci := 9) (j := 0) (p := 64) (by decide +kernel) rfl (by decide +kernel) fo_0 (fr_a0_0) ?_
    refine fs_gfi (idx := 67) (ci := 8) (j := 1) (p := 67) (by decide +kernel) rfl (by decide +kernel) fo_14 ?_
    have h := Option.some.inj h
    subst h
    exact fs_iret (by decide +kernel) rt_85
  · rw [if_neg c14] at h
    refine fs_icmp_le_f (off := 5) (t := 18) (p := 16) (by decide +kernel) (by decide +kernel) rfl c14 ?_
    refine fs_iconst (n := -1) (p := 17) (by decide +kernel) rfl kc_m1 ?_
    have h := Option.some.inj h
    subst h
    exact fs_iret (by decide +kernel) rt_85

/-! ZoneShares.end(I)I -/
theorem mx_86 : iv_mx 86 = 2 := by decide +kernel
theorem rt_86 : iv_rt 86 = some .int := by decide +kernel
def fm_86 (x1 : Int32) (σ : fx_S) : Option (Int32 × fx_S) :=
  if x1 < 0 then (
    some ((-1 : Int32), σ)) else (
    if x1 ≤ (σ.1 14 1) then (
      some (x1, (fx_w1 σ 14 1 x1))) else (
      some ((-1 : Int32), σ)))
theorem fe_86 {d : Nat} (hd : 0 ≤ d) {x1 : Int32} {σ : fx_S} {q : Int32 × fx_S} (h : fm_86 x1 σ = some q) : fx_E none 86 d 0 [some (.ref 0), some (.int x1)] [] σ (some (.int q.1)) q.2 := by
  unfold fm_86 at h
  refine fs_iload_n (k := 1) (p := 1) (by decide +kernel) rfl rfl ?_
  by_cases c6 : x1 < 0
  · rw [if_pos c6] at h
    refine fs_if_lt_t (off := 14) (t := 15) (by decide +kernel) (by decide +kernel) c6 ?_
    refine fs_iconst (n := -1) (p := 16) (by decide +kernel) rfl kc_m1 ?_
    have h := Option.some.inj h
    subst h
    exact fs_iret (by decide +kernel) rt_86
  · rw [if_neg c6] at h
    refine fs_if_lt_f (off := 14) (t := 15) (p := 4) (by decide +kernel) (by decide +kernel) rfl c6 ?_
    refine fs_iload_n (k := 1) (p := 5) (by decide +kernel) rfl rfl ?_
    refine fs_aload_n (k := 0) (p := 6) (by decide +kernel) rfl rfl ?_
    refine fs_gfr (idx := 22) (ci := 9) (j := 0) (p := 9) (by decide +kernel) rfl (by decide +kernel) fo_0 (fr_a0_0) ?_
    refine fs_gfi (idx := 67) (ci := 8) (j := 1) (p := 12) (by decide +kernel) rfl (by decide +kernel) fo_14 ?_
    by_cases c8 : x1 ≤ (σ.1 14 1)
    · rw [if_pos c8] at h
      refine fs_icmp_le_t (off := 5) (t := 17) (by decide +kernel) (by decide +kernel) c8 ?_
      refine fs_aload_n (k := 0) (p := 18) (by decide +kernel) rfl rfl ?_
      refine fs_gfr (idx := 22) (ci := 9) (j := 0) (p := 21) (by decide +kernel) rfl (by decide +kernel) fo_0 (fr_a0_0) ?_
      refine fs_iload_n (k := 1) (p := 22) (by decide +kernel) rfl rfl ?_
      refine fs_pfi (idx := 67) (ci := 8) (j := 1) (p := 25) (by decide +kernel) rfl (by decide +kernel) (by decide +kernel) fo_14 (fx_oki _ (by decide +kernel)) ?_
      refine fs_iload_n (k := 1) (p := 26) (by decide +kernel) rfl rfl ?_
      have h := Option.some.inj h
      subst h
      exact fs_iret (by decide +kernel) rt_86
    · rw [if_neg c8] at h
      refine fs_icmp_le_f (off := 5) (t := 17) (p := 15) (by decide +kernel) (by decide +kernel) rfl c8 ?_
      refine fs_iconst (n := -1) (p := 16) (by decide +kernel) rfl kc_m1 ?_
      have h := Option.some.inj h
      subst h
      exact fs_iret (by decide +kernel) rt_86

/-! ZoneShares.cell(III)I -/
theorem mx_95 : iv_mx 95 = 5 := by decide +kernel
theorem rt_95 : iv_rt 95 = some .int := by decide +kernel
def fm_95 (x1 : Int32) (x2 : Int32) (x3 : Int32) (σ : fx_S) : Option (Int32 × fx_S) :=
  if x1 < 0 then (
    some ((-1 : Int32), σ)) else (
    if (2 : Int32) < x1 then (
      some ((-1 : Int32), σ)) else (
      (fm_56 1 x1 σ).bind fun q19 =>
      if (fx_b q19.1) = 0 then (
        some ((-1 : Int32), q19.2)) else (
        (fm_59 1 x2 x3 q19.2).bind fun q22 =>
        if ¬ (fx_b q22.1) = 0 then (
          (fm_60 1 x1 ((x2 * (q22.2.1 1 5)) + x3) q22.2).bind fun q25 =>
          if ¬ x1 = (2 : Int32) then (
            if ¬ q25.1 = (8 : Int32) then (
              some (((97 : Int32) + q25.1), q25.2)) else (
              some ((46 : Int32), q25.2))) else (
            some (((48 : Int32) + q25.1), q25.2))) else (
          some ((-1 : Int32), q22.2)))))
theorem fe_95 {d : Nat} (hd : 1 ≤ d) {x1 : Int32} {x2 : Int32} {x3 : Int32} {σ : fx_S} {q : Int32 × fx_S} (h : fm_95 x1 x2 x3 σ = some q) : fx_E none 95 d 0 [some (.ref 0), some (.int x1), some (.int x2), some (.int x3), none] [] σ (some (.int q.1)) q.2 := by
  unfold fm_95 at h
  refine fs_iload_n (k := 1) (p := 1) (by decide +kernel) rfl rfl ?_
  by_cases c16 : x1 < 0
  · rw [if_pos c16] at h
    refine fs_if_lt_t (off := 31) (t := 32) (by decide +kernel) (by decide +kernel) c16 ?_
    refine fs_iconst (n := -1) (p := 33) (by decide +kernel) rfl kc_m1 ?_
    have h := Option.some.inj h
    subst h
    exact fs_iret (by decide +kernel) rt_95
  · rw [if_neg c16] at h
    refine fs_if_lt_f (off := 31) (t := 32) (p := 4) (by decide +kernel) (by decide +kernel) rfl c16 ?_
    refine fs_iload_n (k := 1) (p := 5) (by decide +kernel) rfl rfl ?_
    refine fs_iconst (n := 2) (p := 6) (by decide +kernel) rfl kc_2 ?_
    by_cases c17 : (2 : Int32) < x1
    · rw [if_pos c17] at h
      refine fs_icmp_gt_t (off := 26) (t := 32) (by decide +kernel) (by decide +kernel) c17 ?_
      refine fs_iconst (n := -1) (p := 33) (by decide +kernel) rfl kc_m1 ?_
      have h := Option.some.inj h
      subst h
      exact fs_iret (by decide +kernel) rt_95
    · rw [if_neg c17] at h
      refine fs_icmp_gt_f (off := 26) (t := 32) (p := 9) (by decide +kernel) (by decide +kernel) rfl c17 ?_
      refine fs_aload_n (k := 0) (p := 10) (by decide +kernel) rfl rfl ?_
      refine fs_gfr (idx := 13) (ci := 9) (j := 1) (p := 13) (by decide +kernel) rfl (by decide +kernel) fo_0 (fr_a0_1) ?_
      refine fs_iload_n (k := 1) (p := 14) (by decide +kernel) rfl rfl ?_
      obtain ⟨q19, w18, h⟩ := fx_bd h
      refine fs_callV (idx := 75) (mj := 56) (ci := 6) (na := 1) (mx := 2) (p := 17) (args := [.ref 1, .int x1]) (rest := []) (al2 := [some (.ref 1), some (.int x1)]) (by decide +kernel) rfl (by decide +kernel) fo_1 rfl rfl rfl rfl rfl rfl rfl (by omega) (fun d' hd' => fe_56 (by omega) w18) rfl ?_
      by_cases c20 : (fx_b q19.1) = 0
      · rw [if_pos c20] at h
        refine fs_if_eq_t (off := 15) (t := 32) (by decide +kernel) (by decide +kernel) c20 ?_
        refine fs_iconst (n := -1) (p := 33) (by decide +kernel) rfl kc_m1 ?_
        have h := Option.some.inj h
        subst h
        exact fs_iret (by decide +kernel) rt_95
      · rw [if_neg c20] at h
        refine fs_if_eq_f (off := 15) (t := 32) (p := 20) (by decide +kernel) (by decide +kernel) rfl c20 ?_
        refine fs_aload_n (k := 0) (p := 21) (by decide +kernel) rfl rfl ?_
        refine fs_gfr (idx := 13) (ci := 9) (j := 1) (p := 24) (by decide +kernel) rfl (by decide +kernel) fo_0 (fr_a0_1) ?_
        refine fs_iload_n (k := 2) (p := 25) (by decide +kernel) rfl rfl ?_
        refine fs_iload_n (k := 3) (p := 26) (by decide +kernel) rfl rfl ?_
        obtain ⟨q22, w21, h⟩ := fx_bd h
        refine fs_callV (idx := 170) (mj := 59) (ci := 6) (na := 2) (mx := 3) (p := 29) (args := [.ref 1, .int x2, .int x3]) (rest := []) (al2 := [some (.ref 1), some (.int x2), some (.int x3)]) (by decide +kernel) rfl (by decide +kernel) fo_1 rfl rfl rfl rfl rfl rfl rfl (by omega) (fun d' hd' => fe_59 (by omega) w21) rfl ?_
        by_cases c23 : ¬ (fx_b q22.1) = 0
        · rw [if_pos c23] at h
          refine fs_if_ne_t (off := 5) (t := 34) (by decide +kernel) (by decide +kernel) c23 ?_
          refine fs_aload_n (k := 0) (p := 35) (by decide +kernel) rfl rfl ?_
          refine fs_gfr (idx := 13) (ci := 9) (j := 1) (p := 38) (by decide +kernel) rfl (by decide +kernel) fo_0 (fr_a0_1) ?_
          refine fs_iload_n (k := 1) (p := 39) (by decide +kernel) rfl rfl ?_
          refine fs_iload_n (k := 2) (p := 40) (by decide +kernel) rfl rfl ?_
          refine fs_aload_n (k := 0) (p := 41) (by decide +kernel) rfl rfl ?_
          refine fs_gfr (idx := 13) (ci := 9) (j := 1) (p := 44) (by decide +kernel) rfl (by decide +kernel) fo_0 (fr_a0_1) ?_
          refine fs_gfi (idx := 174) (ci := 6) (j := 5) (p := 47) (by decide +kernel) rfl (by decide +kernel) fo_1 ?_
          refine fs_imul (p := 48) (by decide +kernel) rfl ?_
          refine fs_iload_n (k := 3) (p := 49) (by decide +kernel) rfl rfl ?_
          refine fs_iadd (p := 50) (by decide +kernel) rfl ?_
          obtain ⟨q25, w24, h⟩ := fx_bd h
          refine fs_callV (idx := 177) (mj := 60) (ci := 6) (na := 2) (mx := 3) (p := 53) (args := [.ref 1, .int x1, .int ((x2 * (q22.2.1 1 5)) + x3)]) (rest := []) (al2 := [some (.ref 1), some (.int x1), some (.int ((x2 * (q22.2.1 1 5)) + x3))]) (by decide +kernel) rfl (by decide +kernel) fo_1 rfl rfl rfl rfl rfl rfl rfl (by omega) (fun d' hd' => fe_60 (by omega) w24) rfl ?_
          refine fs_istore (k := 4) (p := 55) (M := 5) (al' := [some (.ref 0), some (.int x1), some (.int x2), some (.int x3), some (.int q25.1)]) (by decide +kernel) rfl mx_95 rfl rfl ?_
          refine fs_iload_n (k := 1) (p := 56) (by decide +kernel) rfl rfl ?_
          refine fs_iconst (n := 2) (p := 57) (by decide +kernel) rfl kc_2 ?_
          by_cases c26 : ¬ x1 = (2 : Int32)
          · rw [if_pos c26] at h
            refine fs_icmp_ne_t (off := 9) (t := 66) (by decide +kernel) (by decide +kernel) c26 ?_
            refine fs_iload (k := 4) (p := 68) (by decide +kernel) rfl rfl ?_
            refine fs_bipush (n := 8) (p := 70) (by decide +kernel) rfl kb_8 ?_
            by_cases c28 : ¬ q25.1 = (8 : Int32)
            · rw [if_pos c28] at h
              refine fs_icmp_ne_t (off := 8) (t := 78) (by decide +kernel) (by decide +kernel) c28 ?_
              refine fs_bipush (n := 97) (p := 80) (by decide +kernel) rfl kb_97 ?_
              refine fs_iload (k := 4) (p := 82) (by decide +kernel) rfl rfl ?_
              refine fs_iadd (p := 83) (by decide +kernel) rfl ?_
              have h := Option.some.inj h
              subst h
              exact fs_iret (by decide +kernel) rt_95
            · rw [if_neg c28] at h
              refine fs_icmp_ne_f (off := 8) (t := 78) (p := 73) (by decide +kernel) (by decide +kernel) rfl c28 ?_
              refine fs_bipush (n := 46) (p := 75) (by decide +kernel) rfl kb_46 ?_
              refine fs_goto (off := 8) (p := 83) (by decide +kernel) (by decide +kernel) ?_
              have h := Option.some.inj h
              subst h
              exact fs_iret (by decide +kernel) rt_95
          · rw [if_neg c26] at h
            refine fs_icmp_ne_f (off := 9) (t := 66) (p := 60) (by decide +kernel) (by decide +kernel) rfl c26 ?_
            refine fs_bipush (n := 48) (p := 62) (by decide +kernel) rfl kb_48 ?_
            refine fs_iload (k := 4) (p := 64) (by decide +kernel) rfl rfl ?_
            refine fs_iadd (p := 65) (by decide +kernel) rfl ?_
            have h := Option.some.inj h
            subst h
            exact fs_iret (by decide +kernel) rt_95
        · rw [if_neg c23] at h
          refine fs_if_ne_f (off := 5) (t := 34) (p := 32) (by decide +kernel) (by decide +kernel) rfl c23 ?_
          refine fs_iconst (n := -1) (p := 33) (by decide +kernel) rfl kc_m1 ?_
          have h := Option.some.inj h
          subst h
          exact fs_iret (by decide +kernel) rt_95

/-! ZoneShares.isGroup(I)Z -/
theorem mx_114 : iv_mx 114 = 1 := by decide +kernel
theorem rt_114 : iv_rt 114 = some .boolean := by decide +kernel
def fm_114 (x0 : Int32) (σ : fx_S) : Option (Bool × fx_S) :=
  if x0 < 0 then (
    some (false, σ)) else (
    if (3 : Int32) ≤ x0 then (
      some (false, σ)) else (
      some (true, σ)))
theorem fe_114 {d : Nat} (hd : 0 ≤ d) {x0 : Int32} {σ : fx_S} {q : Bool × fx_S} (h : fm_114 x0 σ = some q) : fx_E none 114 d 0 [some (.int x0)] [] σ (some (.int (fx_b q.1))) q.2 := by
  unfold fm_114 at h
  refine fs_iload_n (k := 0) (p := 1) (by decide +kernel) rfl rfl ?_
  by_cases c5 : x0 < 0
  · rw [if_pos c5] at h
    refine fs_if_lt_t (off := 12) (t := 13) (by decide +kernel) (by decide +kernel) c5 ?_
    refine fs_iconst (n := 0) (p := 14) (by decide +kernel) rfl kc_0 ?_
    have h := Option.some.inj h
    subst h
    exact fs_zret (b := false) (by decide +kernel) rt_114
  · rw [if_neg c5] at h
    refine fs_if_lt_f (off := 12) (t := 13) (p := 4) (by decide +kernel) (by decide +kernel) rfl c5 ?_
    refine fs_iload_n (k := 0) (p := 5) (by decide +kernel) rfl rfl ?_
    refine fs_iconst (n := 3) (p := 6) (by decide +kernel) rfl kc_3 ?_
    by_cases c6 : (3 : Int32) ≤ x0
    · rw [if_pos c6] at h
      refine fs_icmp_ge_t (off := 7) (t := 13) (by decide +kernel) (by decide +kernel) c6 ?_
      refine fs_iconst (n := 0) (p := 14) (by decide +kernel) rfl kc_0 ?_
      have h := Option.some.inj h
      subst h
      exact fs_zret (b := false) (by decide +kernel) rt_114
    · rw [if_neg c6] at h
      refine fs_icmp_ge_f (off := 7) (t := 13) (p := 9) (by decide +kernel) (by decide +kernel) rfl c6 ?_
      refine fs_iconst (n := 1) (p := 10) (by decide +kernel) rfl kc_1 ?_
      refine fs_goto (off := 4) (p := 14) (by decide +kernel) (by decide +kernel) ?_
      have h := Option.some.inj h
      subst h
      exact fs_zret (b := true) (by decide +kernel) rt_114

/-! ZoneShares.isZone(I)Z -/
theorem mx_115 : iv_mx 115 = 1 := by decide +kernel
theorem rt_115 : iv_rt 115 = some .boolean := by decide +kernel
def fm_115 (x0 : Int32) (σ : fx_S) : Option (Bool × fx_S) :=
  if x0 < 0 then (
    some (false, σ)) else (
    if (8 : Int32) ≤ x0 then (
      some (false, σ)) else (
      some (true, σ)))
theorem fe_115 {d : Nat} (hd : 0 ≤ d) {x0 : Int32} {σ : fx_S} {q : Bool × fx_S} (h : fm_115 x0 σ = some q) : fx_E none 115 d 0 [some (.int x0)] [] σ (some (.int (fx_b q.1))) q.2 := by
  unfold fm_115 at h
  refine fs_iload_n (k := 0) (p := 1) (by decide +kernel) rfl rfl ?_
  by_cases c5 : x0 < 0
  · rw [if_pos c5] at h
    refine fs_if_lt_t (off := 13) (t := 14) (by decide +kernel) (by decide +kernel) c5 ?_
    refine fs_iconst (n := 0) (p := 15) (by decide +kernel) rfl kc_0 ?_
    have h := Option.some.inj h
    subst h
    exact fs_zret (b := false) (by decide +kernel) rt_115
  · rw [if_neg c5] at h
    refine fs_if_lt_f (off := 13) (t := 14) (p := 4) (by decide +kernel) (by decide +kernel) rfl c5 ?_
    refine fs_iload_n (k := 0) (p := 5) (by decide +kernel) rfl rfl ?_
    refine fs_bipush (n := 8) (p := 7) (by decide +kernel) rfl kb_8 ?_
    by_cases c6 : (8 : Int32) ≤ x0
    · rw [if_pos c6] at h
      refine fs_icmp_ge_t (off := 7) (t := 14) (by decide +kernel) (by decide +kernel) c6 ?_
      refine fs_iconst (n := 0) (p := 15) (by decide +kernel) rfl kc_0 ?_
      have h := Option.some.inj h
      subst h
      exact fs_zret (b := false) (by decide +kernel) rt_115
    · rw [if_neg c6] at h
      refine fs_icmp_ge_f (off := 7) (t := 14) (p := 10) (by decide +kernel) (by decide +kernel) rfl c6 ?_
      refine fs_iconst (n := 1) (p := 11) (by decide +kernel) rfl kc_1 ?_
      refine fs_goto (off := 4) (p := 15) (by decide +kernel) (by decide +kernel) ?_
      have h := Option.some.inj h
      subst h
      exact fs_zret (b := true) (by decide +kernel) rt_115

/-! ZoneShares.isLand(I)Z -/
theorem mx_116 : iv_mx 116 = 1 := by decide +kernel
theorem rt_116 : iv_rt 116 = some .boolean := by decide +kernel
def fm_116 (x0 : Int32) (σ : fx_S) : Option (Bool × fx_S) :=
  if x0 < 0 then (
    some (false, σ)) else (
    if (4 : Int32) ≤ x0 then (
      some (false, σ)) else (
      some (true, σ)))
theorem fe_116 {d : Nat} (hd : 0 ≤ d) {x0 : Int32} {σ : fx_S} {q : Bool × fx_S} (h : fm_116 x0 σ = some q) : fx_E none 116 d 0 [some (.int x0)] [] σ (some (.int (fx_b q.1))) q.2 := by
  unfold fm_116 at h
  refine fs_iload_n (k := 0) (p := 1) (by decide +kernel) rfl rfl ?_
  by_cases c5 : x0 < 0
  · rw [if_pos c5] at h
    refine fs_if_lt_t (off := 12) (t := 13) (by decide +kernel) (by decide +kernel) c5 ?_
    refine fs_iconst (n := 0) (p := 14) (by decide +kernel) rfl kc_0 ?_
    have h := Option.some.inj h
    subst h
    exact fs_zret (b := false) (by decide +kernel) rt_116
  · rw [if_neg c5] at h
    refine fs_if_lt_f (off := 12) (t := 13) (p := 4) (by decide +kernel) (by decide +kernel) rfl c5 ?_
    refine fs_iload_n (k := 0) (p := 5) (by decide +kernel) rfl rfl ?_
    refine fs_iconst (n := 4) (p := 6) (by decide +kernel) rfl kc_4 ?_
    by_cases c6 : (4 : Int32) ≤ x0
    · rw [if_pos c6] at h
      refine fs_icmp_ge_t (off := 7) (t := 13) (by decide +kernel) (by decide +kernel) c6 ?_
      refine fs_iconst (n := 0) (p := 14) (by decide +kernel) rfl kc_0 ?_
      have h := Option.some.inj h
      subst h
      exact fs_zret (b := false) (by decide +kernel) rt_116
    · rw [if_neg c6] at h
      refine fs_icmp_ge_f (off := 7) (t := 13) (p := 9) (by decide +kernel) (by decide +kernel) rfl c6 ?_
      refine fs_iconst (n := 1) (p := 10) (by decide +kernel) rfl kc_1 ?_
      refine fs_goto (off := 4) (p := 14) (by decide +kernel) (by decide +kernel) ?_
      have h := Option.some.inj h
      subst h
      exact fs_zret (b := true) (by decide +kernel) rt_116

/-! ZoneShares.isDistrict(I)Z -/
theorem mx_117 : iv_mx 117 = 1 := by decide +kernel
theorem rt_117 : iv_rt 117 = some .boolean := by decide +kernel
def fm_117 (x0 : Int32) (σ : fx_S) : Option (Bool × fx_S) :=
  if x0 < 0 then (
    some (false, σ)) else (
    if (4 : Int32) ≤ x0 then (
      some (false, σ)) else (
      some (true, σ)))
theorem fe_117 {d : Nat} (hd : 0 ≤ d) {x0 : Int32} {σ : fx_S} {q : Bool × fx_S} (h : fm_117 x0 σ = some q) : fx_E none 117 d 0 [some (.int x0)] [] σ (some (.int (fx_b q.1))) q.2 := by
  unfold fm_117 at h
  refine fs_iload_n (k := 0) (p := 1) (by decide +kernel) rfl rfl ?_
  by_cases c5 : x0 < 0
  · rw [if_pos c5] at h
    refine fs_if_lt_t (off := 12) (t := 13) (by decide +kernel) (by decide +kernel) c5 ?_
    refine fs_iconst (n := 0) (p := 14) (by decide +kernel) rfl kc_0 ?_
    have h := Option.some.inj h
    subst h
    exact fs_zret (b := false) (by decide +kernel) rt_117
  · rw [if_neg c5] at h
    refine fs_if_lt_f (off := 12) (t := 13) (p := 4) (by decide +kernel) (by decide +kernel) rfl c5 ?_
    refine fs_iload_n (k := 0) (p := 5) (by decide +kernel) rfl rfl ?_
    refine fs_iconst (n := 4) (p := 6) (by decide +kernel) rfl kc_4 ?_
    by_cases c6 : (4 : Int32) ≤ x0
    · rw [if_pos c6] at h
      refine fs_icmp_ge_t (off := 7) (t := 13) (by decide +kernel) (by decide +kernel) c6 ?_
      refine fs_iconst (n := 0) (p := 14) (by decide +kernel) rfl kc_0 ?_
      have h := Option.some.inj h
      subst h
      exact fs_zret (b := false) (by decide +kernel) rt_117
    · rw [if_neg c6] at h
      refine fs_icmp_ge_f (off := 7) (t := 13) (p := 9) (by decide +kernel) (by decide +kernel) rfl c6 ?_
      refine fs_iconst (n := 1) (p := 10) (by decide +kernel) rfl kc_1 ?_
      refine fs_goto (off := 4) (p := 14) (by decide +kernel) (by decide +kernel) ?_
      have h := Option.some.inj h
      subst h
      exact fs_zret (b := true) (by decide +kernel) rt_117

/-! ZoneShares.isTarget(II)Z -/
theorem mx_118 : iv_mx 118 = 3 := by decide +kernel
theorem rt_118 : iv_rt 118 = some .boolean := by decide +kernel
def fm_118 (x1 : Int32) (x2 : Int32) (σ : fx_S) : Option (Bool × fx_S) :=
  (fm_114 x1 σ).bind fun q11 =>
  if (fx_b q11.1) = 0 then (
    some (false, q11.2)) else (
    if x2 < 0 then (
      some (false, q11.2)) else (
      if (8 : Int32) < x2 then (
        some (false, q11.2)) else (
        (fm_57 1 q11.2).bind fun q17 =>
        if (fx_b q17.1) = 0 then (
          some (false, q17.2)) else (
          some (true, q17.2)))))
theorem fe_118 {d : Nat} (hd : 1 ≤ d) {x1 : Int32} {x2 : Int32} {σ : fx_S} {q : Bool × fx_S} (h : fm_118 x1 x2 σ = some q) : fx_E none 118 d 0 [some (.ref 0), some (.int x1), some (.int x2)] [] σ (some (.int (fx_b q.1))) q.2 := by
  unfold fm_118 at h
  refine fs_iload_n (k := 1) (p := 1) (by decide +kernel) rfl rfl ?_
  obtain ⟨q11, w10, h⟩ := fx_bd h
  refine fs_callS (idx := 94) (mj := 114) (na := 1) (mx := 1) (p := 4) (args := [.int x1]) (rest := []) (al2 := [some (.int x1)]) (by decide +kernel) rfl (by decide +kernel) rfl rfl rfl rfl rfl rfl rfl (by omega) (fun d' hd' => fe_114 (by omega) w10) rfl ?_
  by_cases c12 : (fx_b q11.1) = 0
  · rw [if_pos c12] at h
    refine fs_if_eq_t (off := 27) (t := 31) (by decide +kernel) (by decide +kernel) c12 ?_
    refine fs_iconst (n := 0) (p := 32) (by decide +kernel) rfl kc_0 ?_
    have h := Option.some.inj h
    subst h
    exact fs_zret (b := false) (by decide +kernel) rt_118
  · rw [if_neg c12] at h
    refine fs_if_eq_f (off := 27) (t := 31) (p := 7) (by decide +kernel) (by decide +kernel) rfl c12 ?_
    refine fs_iload_n (k := 2) (p := 8) (by decide +kernel) rfl rfl ?_
    by_cases c14 : x2 < 0
    · rw [if_pos c14] at h
      refine fs_if_lt_t (off := 23) (t := 31) (by decide +kernel) (by decide +kernel) c14 ?_
      refine fs_iconst (n := 0) (p := 32) (by decide +kernel) rfl kc_0 ?_
      have h := Option.some.inj h
      subst h
      exact fs_zret (b := false) (by decide +kernel) rt_118
    · rw [if_neg c14] at h
      refine fs_if_lt_f (off := 23) (t := 31) (p := 11) (by decide +kernel) (by decide +kernel) rfl c14 ?_
      refine fs_iload_n (k := 2) (p := 12) (by decide +kernel) rfl rfl ?_
      refine fs_bipush (n := 8) (p := 14) (by decide +kernel) rfl kb_8 ?_
      by_cases c15 : (8 : Int32) < x2
      · rw [if_pos c15] at h
        refine fs_icmp_gt_t (off := 17) (t := 31) (by decide +kernel) (by decide +kernel) c15 ?_
        refine fs_iconst (n := 0) (p := 32) (by decide +kernel) rfl kc_0 ?_
        have h := Option.some.inj h
        subst h
        exact fs_zret (b := false) (by decide +kernel) rt_118
      · rw [if_neg c15] at h
        refine fs_icmp_gt_f (off := 17) (t := 31) (p := 17) (by decide +kernel) (by decide +kernel) rfl c15 ?_
        refine fs_aload_n (k := 0) (p := 18) (by decide +kernel) rfl rfl ?_
        refine fs_gfr (idx := 13) (ci := 9) (j := 1) (p := 21) (by decide +kernel) rfl (by decide +kernel) fo_0 (fr_a0_1) ?_
        obtain ⟨q17, w16, h⟩ := fx_bd h
        refine fs_callV (idx := 146) (mj := 57) (ci := 6) (na := 0) (mx := 1) (p := 24) (args := [.ref 1]) (rest := []) (al2 := [some (.ref 1)]) (by decide +kernel) rfl (by decide +kernel) fo_1 rfl rfl rfl rfl rfl rfl rfl (by omega) (fun d' hd' => fe_57 (by omega) w16) rfl ?_
        by_cases c18 : (fx_b q17.1) = 0
        · rw [if_pos c18] at h
          refine fs_if_eq_t (off := 7) (t := 31) (by decide +kernel) (by decide +kernel) c18 ?_
          refine fs_iconst (n := 0) (p := 32) (by decide +kernel) rfl kc_0 ?_
          have h := Option.some.inj h
          subst h
          exact fs_zret (b := false) (by decide +kernel) rt_118
        · rw [if_neg c18] at h
          refine fs_if_eq_f (off := 7) (t := 31) (p := 27) (by decide +kernel) (by decide +kernel) rfl c18 ?_
          refine fs_iconst (n := 1) (p := 28) (by decide +kernel) rfl kc_1 ?_
          refine fs_goto (off := 4) (p := 32) (by decide +kernel) (by decide +kernel) ?_
          have h := Option.some.inj h
          subst h
          exact fs_zret (b := true) (by decide +kernel) rt_118

/-! ZoneShares.forgetTables()V -/
theorem mx_120 : iv_mx 120 = 2 := by decide +kernel
theorem rt_120 : iv_rt 120 = none := by decide +kernel
def fm_120_2 : Nat → Int32 → fx_S → Option (fx_S)
  | 0, _, _ => none
  | n + 1, x1, σ =>
    if (3 : Int32) ≤ x1 then (
      some σ) else (
      (fx_ldr 4 70 x1).bind fun v3 =>
      fm_120_2 n (x1 + (1 : Int32)) (fx_w1 σ v3 8 (0 : Int32)))
theorem fe_120_2 {d : Nat} (hd : 0 ≤ d) : ∀ (n : Nat) (x1 : Int32) (σ : fx_S) (q : fx_S), fm_120_2 n x1 σ = some q → fx_E none 120 d 2 [some (.ref 0), some (.int x1)] [] σ none q := by
  intro n
  induction n with
  | zero =>
    intro x1 σ q  h
    rw [fm_120_2] at h
    exact fx_no h
  | succ n ih =>
    intro x1 σ q  h
    rw [fm_120_2] at h
    refine fs_iload_n (k := 1) (p := 3) (by decide +kernel) rfl rfl ?_
    refine fs_iconst (n := 3) (p := 4) (by decide +kernel) rfl kc_3 ?_
    by_cases c2 : (3 : Int32) ≤ x1
    · rw [if_pos c2] at h
      refine fs_icmp_ge_t (off := 19) (t := 23) (by decide +kernel) (by decide +kernel) c2 ?_
      have h := Option.some.inj h
      subst h
      exact fs_ret (by decide +kernel) rt_120
    · rw [if_neg c2] at h
      refine fs_icmp_ge_f (off := 19) (t := 23) (p := 7) (by decide +kernel) (by decide +kernel) rfl c2 ?_
      refine fs_aload_n (k := 0) (p := 8) (by decide +kernel) rfl rfl ?_
      refine fs_gfr (idx := 60) (ci := 9) (j := 6) (p := 11) (by decide +kernel) rfl (by decide +kernel) fo_0 (fr_a0_6) ?_
      refine fs_iload_n (k := 1) (p := 12) (by decide +kernel) rfl rfl ?_
      obtain ⟨v3, w4, h⟩ := fx_bd h
      have g5 := fa_70 w4
      refine fs_aaload (t := 4) (p := 13) (by decide +kernel) rfl (by decide +kernel) w4 ?_
      refine fs_iconst (n := 0) (p := 14) (by decide +kernel) rfl kc_0 ?_
      refine fs_pfi (idx := 313) (ci := 2) (j := 8) (p := 17) (by decide +kernel) rfl (by decide +kernel) (by decide +kernel) g5 (fx_oki _ (by decide +kernel)) ?_
      refine fs_iinc (k := 1) (n := 1) (p := 20) (M := 2) (al' := [some (.ref 0), some (.int (x1 + (1 : Int32)))]) (by decide +kernel) rfl kc_1 mx_120 rfl rfl rfl ?_
      refine fs_goto (off := -18) (p := 2) (by decide +kernel) (by decide +kernel) ?_
      exact ih _ _ _ h
def fm_120 (σ : fx_S) : Option (fx_S) :=
  fm_120_2 100000 (0 : Int32) σ
theorem fe_120 {d : Nat} (hd : 0 ≤ d) {σ : fx_S} {q : fx_S} (h : fm_120 σ = some q) : fx_E none 120 d 0 [some (.ref 0), none] [] σ none q := by
  unfold fm_120 at h
  refine fs_iconst (n := 0) (p := 1) (by decide +kernel) rfl kc_0 ?_
  refine fs_istore_n (k := 1) (p := 2) (M := 2) (al' := [some (.ref 0), some (.int (0 : Int32))]) (by decide +kernel) rfl mx_120 rfl rfl ?_
  exact fe_120_2 hd 100000 _ _ _ h

/-! ZoneShares.adoptCounts(I)I -/
theorem mx_122 : iv_mx 122 = 6 := by decide +kernel
theorem rt_122 : iv_rt 122 = some .int := by decide +kernel
def fm_122_12 : Nat → Int32 → Nat → Int32 → Int32 → fx_S → Option (Int32 × fx_S)
  | 0, _, _, _, _, _ => none
  | n + 1, x1, x2, x3, x4, σ =>
    if (8 : Int32) ≤ x4 then (
      (fm_76 (x2 + 3) (8 : Int32) σ).bind fun q4 =>
      (fx_st q4.2 3 ((x1 * (9 : Int32)) + (8 : Int32)) (q4.1 + (q4.2.1 x2 7))).bind fun t5 =>
      some (x3, t5)) else (
      (fm_76 (x2 + 3) x4 σ).bind fun q9 =>
      (fx_st q9.2 3 ((x1 * (9 : Int32)) + x4) q9.1).bind fun t10 =>
      fm_122_12 n x1 x2 (x3 + q9.1) (x4 + (1 : Int32)) t10)
theorem fe_122_12 {d : Nat} (hd : 1 ≤ d) : ∀ (n : Nat) (x1 : Int32) (x2 : Nat) (x3 : Int32) (x4 : Int32) (o5 : Option Value) (σ : fx_S) (q : Int32 × fx_S) (g2 : fx_oc x2 2 = true), fm_122_12 n x1 x2 x3 x4 σ = some q → fx_E none 122 d 12 [some (.ref 0), some (.int x1), some (.ref x2), some (.int x3), some (.int x4), o5] [] σ (some (.int q.1)) q.2 := by
  intro n
  induction n with
  | zero =>
    intro x1 x2 x3 x4 o5 σ q g2 h
    rw [fm_122_12] at h
    exact fx_no h
  | succ n ih =>
    intro x1 x2 x3 x4 o5 σ q g2 h
    rw [fm_122_12] at h
    refine fs_iload (k := 4) (p := 14) (by decide +kernel) rfl rfl ?_
    refine fs_bipush (n := 8) (p := 16) (by decide +kernel) rfl kb_8 ?_
    by_cases c2 : (8 : Int32) ≤ x4
    · rw [if_pos c2] at h
      refine fs_icmp_ge_t (off := 42) (t := 58) (by decide +kernel) (by decide +kernel) c2 ?_
      refine fs_aload_n (k := 0) (p := 59) (by decide +kernel) rfl rfl ?_
      refine fs_gfr (idx := 13) (ci := 9) (j := 1) (p := 62) (by decide +kernel) rfl (by decide +kernel) fo_0 (fr_a0_1) ?_
      refine fs_gfr (idx := 103) (ci := 6) (j := 1) (p := 65) (by decide +kernel) rfl (by decide +kernel) fo_1 (fr_a1_1) ?_
      refine fs_iload_n (k := 1) (p := 66) (by decide +kernel) rfl rfl ?_
      refine fs_bipush (n := 9) (p := 68) (by decide +kernel) rfl kb_9 ?_
      refine fs_imul (p := 69) (by decide +kernel) rfl ?_
      refine fs_bipush (n := 8) (p := 71) (by decide +kernel) rfl kb_8 ?_
      refine fs_iadd (p := 72) (by decide +kernel) rfl ?_
      refine fs_aload_n (k := 2) (p := 73) (by decide +kernel) rfl rfl ?_
      refine fs_gfr (idx := 202) (ci := 2) (j := 2) (p := 76) (by decide +kernel) rfl (by decide +kernel) g2 (fr_2_2 g2) ?_
      refine fs_bipush (n := 8) (p := 78) (by decide +kernel) rfl kb_8 ?_
      obtain ⟨q4, w3, h⟩ := fx_bd h
      refine fs_callV (idx := 237) (mj := 76) (ci := 7) (na := 1) (mx := 4) (p := 81) (args := [.ref (x2 + 3), .int (8 : Int32)]) (rest := [.int ((x1 * (9 : Int32)) + (8 : Int32)), .ref 3]) (al2 := [some (.ref (x2 + 3)), some (.int (8 : Int32)), none, none]) (by decide +kernel) rfl (by decide +kernel) (fg_2_2 g2) rfl rfl rfl rfl rfl rfl rfl (by omega) (fun d' hd' => fe_76 (by omega) w3) rfl ?_
      refine fs_aload_n (k := 2) (p := 82) (by decide +kernel) rfl rfl ?_
      refine fs_gfi (idx := 196) (ci := 2) (j := 7) (p := 85) (by decide +kernel) rfl (by decide +kernel) g2 ?_
      refine fs_iadd (p := 86) (by decide +kernel) rfl ?_
      obtain ⟨t5, w6, h⟩ := fx_bd h
      refine fs_iastore (p := 87) (by decide +kernel) rfl w6 ?_
      refine fs_iload_n (k := 3) (p := 88) (by decide +kernel) rfl rfl ?_
      have h := Option.some.inj h
      subst h
      exact fs_iret (by decide +kernel) rt_122
    · rw [if_neg c2] at h
      refine fs_icmp_ge_f (off := 42) (t := 58) (p := 19) (by decide +kernel) (by decide +kernel) rfl c2 ?_
      refine fs_aload_n (k := 2) (p := 20) (by decide +kernel) rfl rfl ?_
      refine fs_gfr (idx := 202) (ci := 2) (j := 2) (p := 23) (by decide +kernel) rfl (by decide +kernel) g2 (fr_2_2 g2) ?_
      refine fs_iload (k := 4) (p := 25) (by decide +kernel) rfl rfl ?_
      obtain ⟨q9, w8, h⟩ := fx_bd h
      refine fs_callV (idx := 237) (mj := 76) (ci := 7) (na := 1) (mx := 4) (p := 28) (args := [.ref (x2 + 3), .int x4]) (rest := []) (al2 := [some (.ref (x2 + 3)), some (.int x4), none, none]) (by decide +kernel) rfl (by decide +kernel) (fg_2_2 g2) rfl rfl rfl rfl rfl rfl rfl (by omega) (fun d' hd' => fe_76 (by omega) w8) rfl ?_
      refine fs_istore (k := 5) (p := 30) (M := 6) (al' := [some (.ref 0), some (.int x1), some (.ref x2), some (.int x3), some (.int x4), some (.int q9.1)]) (by decide +kernel) rfl mx_122 rfl rfl ?_
      refine fs_aload_n (k := 0) (p := 31) (by decide +kernel) rfl rfl ?_
      refine fs_gfr (idx := 13) (ci := 9) (j := 1) (p := 34) (by decide +kernel) rfl (by decide +kernel) fo_0 (fr_a0_1) ?_
      refine fs_gfr (idx := 103) (ci := 6) (j := 1) (p := 37) (by decide +kernel) rfl (by decide +kernel) fo_1 (fr_a1_1) ?_
      refine fs_iload_n (k := 1) (p := 38) (by decide +kernel) rfl rfl ?_
      refine fs_bipush (n := 9) (p := 40) (by decide +kernel) rfl kb_9 ?_
      refine fs_imul (p := 41) (by decide +kernel) rfl ?_
      refine fs_iload (k := 4) (p := 43) (by decide +kernel) rfl rfl ?_
      refine fs_iadd (p := 44) (by decide +kernel) rfl ?_
      refine fs_iload (k := 5) (p := 46) (by decide +kernel) rfl rfl ?_
      obtain ⟨t10, w11, h⟩ := fx_bd h
      refine fs_iastore (p := 47) (by decide +kernel) rfl w11 ?_
      refine fs_iload_n (k := 3) (p := 48) (by decide +kernel) rfl rfl ?_
      refine fs_iload (k := 5) (p := 50) (by decide +kernel) rfl rfl ?_
      refine fs_iadd (p := 51) (by decide +kernel) rfl ?_
      refine fs_istore_n (k := 3) (p := 52) (M := 6) (al' := [some (.ref 0), some (.int x1), some (.ref x2), some (.int (x3 + q9.1)), some (.int x4), some (.int q9.1)]) (by decide +kernel) rfl mx_122 rfl rfl ?_
      refine fs_iinc (k := 4) (n := 1) (p := 55) (M := 6) (al' := [some (.ref 0), some (.int x1), some (.ref x2), some (.int (x3 + q9.1)), some (.int (x4 + (1 : Int32))), some (.int q9.1)]) (by decide +kernel) rfl kc_1 mx_122 rfl rfl rfl ?_
      refine fs_goto (off := -43) (p := 12) (by decide +kernel) (by decide +kernel) ?_
      exact ih _ _ _ _ _ _ _ g2 h
def fm_122 (x1 : Int32) (σ : fx_S) : Option (Int32 × fx_S) :=
  (fx_ldr 4 70 x1).bind fun v29 =>
  fm_122_12 100000 x1 v29 (0 : Int32) (0 : Int32) σ
theorem fe_122 {d : Nat} (hd : 1 ≤ d) {x1 : Int32} {σ : fx_S} {q : Int32 × fx_S} (h : fm_122 x1 σ = some q) : fx_E none 122 d 0 [some (.ref 0), some (.int x1), none, none, none, none] [] σ (some (.int q.1)) q.2 := by
  unfold fm_122 at h
  refine fs_aload_n (k := 0) (p := 1) (by decide +kernel) rfl rfl ?_
  refine fs_gfr (idx := 60) (ci := 9) (j := 6) (p := 4) (by decide +kernel) rfl (by decide +kernel) fo_0 (fr_a0_6) ?_
  refine fs_iload_n (k := 1) (p := 5) (by decide +kernel) rfl rfl ?_
  obtain ⟨v29, w30, h⟩ := fx_bd h
  have g31 := fa_70 w30
  refine fs_aaload (t := 4) (p := 6) (by decide +kernel) rfl (by decide +kernel) w30 ?_
  refine fs_astore_n (k := 2) (p := 7) (M := 6) (al' := [some (.ref 0), some (.int x1), some (.ref v29), none, none, none]) (by decide +kernel) rfl mx_122 rfl rfl ?_
  refine fs_iconst (n := 0) (p := 8) (by decide +kernel) rfl kc_0 ?_
  refine fs_istore_n (k := 3) (p := 9) (M := 6) (al' := [some (.ref 0), some (.int x1), some (.ref v29), some (.int (0 : Int32)), none, none]) (by decide +kernel) rfl mx_122 rfl rfl ?_
  refine fs_iconst (n := 0) (p := 10) (by decide +kernel) rfl kc_0 ?_
  refine fs_istore (k := 4) (p := 12) (M := 6) (al' := [some (.ref 0), some (.int x1), some (.ref v29), some (.int (0 : Int32)), some (.int (0 : Int32)), none]) (by decide +kernel) rfl mx_122 rfl rfl ?_
  exact fe_122_12 hd 100000 _ _ _ _ _ _ _ g31 h

/-! ZoneShares.placeOfPiece(I)I -/
theorem mx_124 : iv_mx 124 = 4 := by decide +kernel
theorem rt_124 : iv_rt 124 = some .int := by decide +kernel
def fm_124_29 (k_4 : Int32 → Int32 → fx_S → Option (Int32 × fx_S)) (x2 : Int32) (x3 : Int32) (σ : fx_S) : Option (Int32 × fx_S) :=
  k_4 x2 (x3 + (1 : Int32)) σ
theorem fe_124_29 {d : Nat} (hd : 0 ≤ d) {k_4 : Int32 → Int32 → fx_S → Option (Int32 × fx_S)} (hk_4 : ∀ (x2 : Int32) (x3 : Int32) (o1 : Option Value) (σ : fx_S) (q : Int32 × fx_S), k_4 x2 x3 σ = some q → fx_E none 124 d 4 [some (.ref 0), o1, some (.int x2), some (.int x3)] [] σ (some (.int q.1)) q.2) (x2 : Int32) (x3 : Int32) (o1 : Option Value) (σ : fx_S) (q : Int32 × fx_S) (h : fm_124_29 k_4  x2 x3 σ = some q) : fx_E none 124 d 29 [some (.ref 0), o1, some (.int x2), some (.int x3)] [] σ (some (.int q.1)) q.2 := by
  unfold fm_124_29 at h
  refine fs_iinc (k := 3) (n := 1) (p := 32) (M := 4) (al' := [some (.ref 0), o1, some (.int x2), some (.int (x3 + (1 : Int32)))]) (by decide +kernel) rfl kc_1 mx_124 rfl rfl rfl ?_
  refine fs_goto (off := -28) (p := 4) (by decide +kernel) (by decide +kernel) ?_
  exact hk_4 _ _ _ _ _ h
def fm_124_4 : Nat → Int32 → Int32 → fx_S → Option (Int32 × fx_S)
  | 0, _, _, _ => none
  | n + 1, x2, x3, σ =>
    if (288 : Int32) ≤ x3 then (
      some ((0 : Int32), σ)) else (
      (fx_ld σ 69 x3).bind fun v3 =>
      if v3 ≤ 0 then (
        fm_124_29 (fm_124_4 n) x2 x3 σ) else (
        if ¬ x2 = 0 then (
          fm_124_29 (fm_124_4 n) (x2 + (-1 : Int32)) x3 σ) else (
          some (x3, σ))))
theorem fe_124_4 {d : Nat} (hd : 0 ≤ d) : ∀ (n : Nat) (x2 : Int32) (x3 : Int32) (o1 : Option Value) (σ : fx_S) (q : Int32 × fx_S), fm_124_4 n x2 x3 σ = some q → fx_E none 124 d 4 [some (.ref 0), o1, some (.int x2), some (.int x3)] [] σ (some (.int q.1)) q.2 := by
  intro n
  induction n with
  | zero =>
    intro x2 x3 o1 σ q  h
    rw [fm_124_4] at h
    exact fx_no h
  | succ n ih =>
    intro x2 x3 o1 σ q  h
    rw [fm_124_4] at h
    refine fs_iload_n (k := 3) (p := 5) (by decide +kernel) rfl rfl ?_
    refine fs_sipush (n := 288) (p := 8) (by decide +kernel) rfl ks_288 ?_
    by_cases c2 : (288 : Int32) ≤ x3
    · rw [if_pos c2] at h
      refine fs_icmp_ge_t (off := 27) (t := 35) (by decide +kernel) (by decide +kernel) c2 ?_
      refine fs_iconst (n := 0) (p := 36) (by decide +kernel) rfl kc_0 ?_
      have h := Option.some.inj h
      subst h
      exact fs_iret (by decide +kernel) rt_124
    · rw [if_neg c2] at h
      refine fs_icmp_ge_f (off := 27) (t := 35) (p := 11) (by decide +kernel) (by decide +kernel) rfl c2 ?_
      refine fs_aload_n (k := 0) (p := 12) (by decide +kernel) rfl rfl ?_
      refine fs_gfr (idx := 54) (ci := 9) (j := 7) (p := 15) (by decide +kernel) rfl (by decide +kernel) fo_0 (fr_a0_7) ?_
      refine fs_iload_n (k := 3) (p := 16) (by decide +kernel) rfl rfl ?_
      obtain ⟨v3, w4, h⟩ := fx_bd h
      refine fs_iaload (p := 17) (by decide +kernel) rfl w4 ?_
      by_cases c7 : v3 ≤ 0
      · rw [if_pos c7] at h
        refine fs_if_le_t (off := 12) (t := 29) (by decide +kernel) (by decide +kernel) c7 ?_
        exact fe_124_29 hd ih _ _ _ _ _ h
      · rw [if_neg c7] at h
        refine fs_if_le_f (off := 12) (t := 29) (p := 20) (by decide +kernel) (by decide +kernel) rfl c7 ?_
        refine fs_iload_n (k := 2) (p := 21) (by decide +kernel) rfl rfl ?_
        by_cases c9 : ¬ x2 = 0
        · rw [if_pos c9] at h
          refine fs_if_ne_t (off := 5) (t := 26) (by decide +kernel) (by decide +kernel) c9 ?_
          refine fs_iinc (k := 2) (n := -1) (p := 29) (M := 4) (al' := [some (.ref 0), (fx_kl o1), some (.int (x2 + (-1 : Int32))), some (.int x3)]) (by decide +kernel) rfl kc_m1 mx_124 rfl rfl rfl ?_
          exact fe_124_29 hd ih _ _ _ _ _ h
        · rw [if_neg c9] at h
          refine fs_if_ne_f (off := 5) (t := 26) (p := 24) (by decide +kernel) (by decide +kernel) rfl c9 ?_
          refine fs_iload_n (k := 3) (p := 25) (by decide +kernel) rfl rfl ?_
          have h := Option.some.inj h
          subst h
          exact fs_iret (by decide +kernel) rt_124
def fm_124 (x1 : Int32) (σ : fx_S) : Option (Int32 × fx_S) :=
  fm_124_4 100000 x1 (0 : Int32) σ
theorem fe_124 {d : Nat} (hd : 0 ≤ d) {x1 : Int32} {σ : fx_S} {q : Int32 × fx_S} (h : fm_124 x1 σ = some q) : fx_E none 124 d 0 [some (.ref 0), some (.int x1), none, none] [] σ (some (.int q.1)) q.2 := by
  unfold fm_124 at h
  refine fs_iload_n (k := 1) (p := 1) (by decide +kernel) rfl rfl ?_
  refine fs_istore_n (k := 2) (p := 2) (M := 4) (al' := [some (.ref 0), some (.int x1), some (.int x1), none]) (by decide +kernel) rfl mx_124 rfl rfl ?_
  refine fs_iconst (n := 0) (p := 3) (by decide +kernel) rfl kc_0 ?_
  refine fs_istore_n (k := 3) (p := 4) (M := 4) (al' := [some (.ref 0), some (.int x1), some (.int x1), some (.int (0 : Int32))]) (by decide +kernel) rfl mx_124 rfl rfl ?_
  exact fe_124_4 hd 100000 _ _ _ _ _ h

/-! ZoneShares.gcd(JJ)J -/
theorem mx_128 : iv_mx 128 = 11 := by decide +kernel
theorem rt_128 : iv_rt 128 = some .long := by decide +kernel
def fm_128_44 (x4 : Int64) (σ : fx_S) : Option (Int64 × fx_S) :=
  some (x4, σ)
theorem fe_128_44 {d : Nat} (hd : 0 ≤ d) (x4 : Int64) (o0 : Option Value) (o2 : Option Value) (o6 : Option Value) (o8 : Option Value) (o9 : Option Value) (σ : fx_S) (q : Int64 × fx_S) (h : fm_128_44  x4 σ = some q) : fx_E none 128 d 44 [o0, none, o2, none, some (.long x4), none, o6, none, o8, o9, none] [] σ (some (.long q.1)) q.2 := by
  unfold fm_128_44 at h
  refine fs_lload (k := 4) (p := 46) (by decide +kernel) rfl rfl ?_
  have h := Option.some.inj h
  subst h
  exact fs_lret (by decide +kernel) rt_128
def fm_128_9 : Nat → Int64 → Int64 → Int32 → fx_S → Option (Int64 × fx_S)
  | 0, _, _, _, _ => none
  | n + 1, x4, x6, x8, σ =>
    if (100 : Int32) ≤ x8 then (
      fm_128_44 x4 σ) else (
      if x6 = (0 : Int64) then (
        fm_128_44 x4 σ) else (
        if ¬ x6 = 0 then (
        fm_128_9 n x6 (x4 - x4 / x6 * x6) (x8 + (1 : Int32)) σ) else none))
theorem fe_128_9 {d : Nat} (hd : 0 ≤ d) : ∀ (n : Nat) (x4 : Int64) (x6 : Int64) (x8 : Int32) (o0 : Option Value) (o2 : Option Value) (o9 : Option Value) (σ : fx_S) (q : Int64 × fx_S), fm_128_9 n x4 x6 x8 σ = some q → fx_E none 128 d 9 [o0, none, o2, none, some (.long x4), none, some (.long x6), none, some (.int x8), o9, none] [] σ (some (.long q.1)) q.2 := by
  intro n
  induction n with
  | zero =>
    intro x4 x6 x8 o0 o2 o9 σ q  h
    rw [fm_128_9] at h
    exact fx_no h
  | succ n ih =>
    intro x4 x6 x8 o0 o2 o9 σ q  h
    rw [fm_128_9] at h
    refine fs_iload (k := 8) (p := 11) (by decide +kernel) rfl rfl ?_
    refine fs_bipush (n := 100) (p := 13) (by decide +kernel) rfl kb_100 ?_
    by_cases c2 : (100 : Int32) ≤ x8
    · rw [if_pos c2] at h
      refine fs_icmp_ge_t (off := 31) (t := 44) (by decide +kernel) (by decide +kernel) c2 ?_
      exact fe_128_44 hd _ _ _ _ _ _ _ _ h
    · rw [if_neg c2] at h
      refine fs_icmp_ge_f (off := 31) (t := 44) (p := 16) (by decide +kernel) (by decide +kernel) rfl c2 ?_
      refine fs_lload (k := 6) (p := 18) (by decide +kernel) rfl rfl ?_
      refine fs_lconst (n := 0) (p := 19) (by decide +kernel) rfl kl_0 ?_
      by_cases c4 : x6 = (0 : Int64)
      · rw [if_pos c4] at h
        refine fs_lcmp_eq_t (off := 24) (t := 44) (by decide +kernel) (by decide +kernel) (by decide +kernel) c4 ?_
        exact fe_128_44 hd _ _ _ _ _ _ _ _ h
      · rw [if_neg c4] at h
        refine fs_lcmp_eq_f (off := 24) (t := 44) (p := 23) (by decide +kernel) (by decide +kernel) (by decide +kernel) rfl c4 ?_
        refine fs_lload (k := 4) (p := 25) (by decide +kernel) rfl rfl ?_
        refine fs_lload (k := 6) (p := 27) (by decide +kernel) rfl rfl ?_
        obtain ⟨z6, h⟩ := fx_gd h
        refine fs_lrem (p := 28) (by decide +kernel) rfl z6 ?_
        refine fs_lstore (k := 9) (p := 30) (M := 11) (al' := [o0, none, o2, none, some (.long x4), none, some (.long x6), none, some (.int x8), some (.long (x4 - x4 / x6 * x6)), none]) (by decide +kernel) rfl mx_128 rfl rfl ?_
        refine fs_lload (k := 6) (p := 32) (by decide +kernel) rfl rfl ?_
        refine fs_lstore (k := 4) (p := 34) (M := 11) (al' := [o0, none, o2, none, some (.long x6), none, some (.long x6), none, some (.int x8), some (.long (x4 - x4 / x6 * x6)), none]) (by decide +kernel) rfl mx_128 rfl rfl ?_
        refine fs_lload (k := 9) (p := 36) (by decide +kernel) rfl rfl ?_
        refine fs_lstore (k := 6) (p := 38) (M := 11) (al' := [o0, none, o2, none, some (.long x6), none, some (.long (x4 - x4 / x6 * x6)), none, some (.int x8), some (.long (x4 - x4 / x6 * x6)), none]) (by decide +kernel) rfl mx_128 rfl rfl ?_
        refine fs_iinc (k := 8) (n := 1) (p := 41) (M := 11) (al' := [o0, none, o2, none, some (.long x6), none, some (.long (x4 - x4 / x6 * x6)), none, some (.int (x8 + (1 : Int32))), some (.long (x4 - x4 / x6 * x6)), none]) (by decide +kernel) rfl kc_1 mx_128 rfl rfl rfl ?_
        refine fs_goto (off := -32) (p := 9) (by decide +kernel) (by decide +kernel) ?_
        exact ih _ _ _ _ _ _ _ _ h
def fm_128 (x0 : Int64) (x2 : Int64) (σ : fx_S) : Option (Int64 × fx_S) :=
  fm_128_9 100000 x0 x2 (0 : Int32) σ
theorem fe_128 {d : Nat} (hd : 0 ≤ d) {x0 : Int64} {x2 : Int64} {σ : fx_S} {q : Int64 × fx_S} (h : fm_128 x0 x2 σ = some q) : fx_E none 128 d 0 [some (.long x0), none, some (.long x2), none, none, none, none, none, none, none, none] [] σ (some (.long q.1)) q.2 := by
  unfold fm_128 at h
  refine fs_lload_n (k := 0) (p := 1) (by decide +kernel) rfl rfl ?_
  refine fs_lstore (k := 4) (p := 3) (M := 11) (al' := [some (.long x0), none, some (.long x2), none, some (.long x0), none, none, none, none, none, none]) (by decide +kernel) rfl mx_128 rfl rfl ?_
  refine fs_lload_n (k := 2) (p := 4) (by decide +kernel) rfl rfl ?_
  refine fs_lstore (k := 6) (p := 6) (M := 11) (al' := [some (.long x0), none, some (.long x2), none, some (.long x0), none, some (.long x2), none, none, none, none]) (by decide +kernel) rfl mx_128 rfl rfl ?_
  refine fs_iconst (n := 0) (p := 7) (by decide +kernel) rfl kc_0 ?_
  refine fs_istore (k := 8) (p := 9) (M := 11) (al' := [some (.long x0), none, some (.long x2), none, some (.long x0), none, some (.long x2), none, some (.int (0 : Int32)), none, none]) (by decide +kernel) rfl mx_128 rfl rfl ?_
  exact fe_128_9 hd 100000 _ _ _ _ _ _ _ _ h

/-! ZoneSharesModel.in(JJJ)Z -/
theorem mx_130 : iv_mx 130 = 6 := by decide +kernel
theorem rt_130 : iv_rt 130 = some .boolean := by decide +kernel
def fm_130 (x0 : Int64) (x2 : Int64) (x4 : Int64) (σ : fx_S) : Option (Bool × fx_S) :=
  if x0 < x2 then (
    some (false, σ)) else (
    if x4 < x0 then (
      some (false, σ)) else (
      some (true, σ)))
theorem fe_130 {d : Nat} (hd : 0 ≤ d) {x0 : Int64} {x2 : Int64} {x4 : Int64} {σ : fx_S} {q : Bool × fx_S} (h : fm_130 x0 x2 x4 σ = some q) : fx_E none 130 d 0 [some (.long x0), none, some (.long x2), none, some (.long x4), none] [] σ (some (.int (fx_b q.1))) q.2 := by
  unfold fm_130 at h
  refine fs_lload_n (k := 0) (p := 1) (by decide +kernel) rfl rfl ?_
  refine fs_lload_n (k := 2) (p := 2) (by decide +kernel) rfl rfl ?_
  by_cases c8 : x0 < x2
  · rw [if_pos c8] at h
    refine fs_lcmp_lt_t (off := 14) (t := 17) (by decide +kernel) (by decide +kernel) (by decide +kernel) c8 ?_
    refine fs_iconst (n := 0) (p := 18) (by decide +kernel) rfl kc_0 ?_
    have h := Option.some.inj h
    subst h
    exact fs_zret (b := false) (by decide +kernel) rt_130
  · rw [if_neg c8] at h
    refine fs_lcmp_lt_f (off := 14) (t := 17) (p := 6) (by decide +kernel) (by decide +kernel) (by decide +kernel) rfl c8 ?_
    refine fs_lload_n (k := 0) (p := 7) (by decide +kernel) rfl rfl ?_
    refine fs_lload (k := 4) (p := 9) (by decide +kernel) rfl rfl ?_
    by_cases c10 : x4 < x0
    · rw [if_pos c10] at h
      refine fs_lcmp_gt_t (off := 7) (t := 17) (by decide +kernel) (by decide +kernel) (by decide +kernel) c10 ?_
      refine fs_iconst (n := 0) (p := 18) (by decide +kernel) rfl kc_0 ?_
      have h := Option.some.inj h
      subst h
      exact fs_zret (b := false) (by decide +kernel) rt_130
    · rw [if_neg c10] at h
      refine fs_lcmp_gt_f (off := 7) (t := 17) (p := 13) (by decide +kernel) (by decide +kernel) (by decide +kernel) rfl c10 ?_
      refine fs_iconst (n := 1) (p := 14) (by decide +kernel) rfl kc_1 ?_
      refine fs_goto (off := 4) (p := 18) (by decide +kernel) (by decide +kernel) ?_
      have h := Option.some.inj h
      subst h
      exact fs_zret (b := true) (by decide +kernel) rt_130

/-! ZoneSharesModel.truth(Z)I -/
theorem mx_131 : iv_mx 131 = 1 := by decide +kernel
theorem rt_131 : iv_rt 131 = some .int := by decide +kernel
def fm_131 (x0 : Int32) (σ : fx_S) : Option (Int32 × fx_S) :=
  if x0 = 0 then (
    some ((0 : Int32), σ)) else (
    some ((1 : Int32), σ))
theorem fe_131 {d : Nat} (hd : 0 ≤ d) {x0 : Int32} {σ : fx_S} {q : Int32 × fx_S} (h : fm_131 x0 σ = some q) : fx_E none 131 d 0 [some (.int x0)] [] σ (some (.int q.1)) q.2 := by
  unfold fm_131 at h
  refine fs_iload_n (k := 0) (p := 1) (by decide +kernel) rfl rfl ?_
  by_cases c4 : x0 = 0
  · rw [if_pos c4] at h
    refine fs_if_eq_t (off := 7) (t := 8) (by decide +kernel) (by decide +kernel) c4 ?_
    refine fs_iconst (n := 0) (p := 9) (by decide +kernel) rfl kc_0 ?_
    have h := Option.some.inj h
    subst h
    exact fs_iret (by decide +kernel) rt_131
  · rw [if_neg c4] at h
    refine fs_if_eq_f (off := 7) (t := 8) (p := 4) (by decide +kernel) (by decide +kernel) rfl c4 ?_
    refine fs_iconst (n := 1) (p := 5) (by decide +kernel) rfl kc_1 ?_
    refine fs_goto (off := 4) (p := 9) (by decide +kernel) (by decide +kernel) ?_
    have h := Option.some.inj h
    subst h
    exact fs_iret (by decide +kernel) rt_131

/-! ZoneSharesModel.remembers()V -/
theorem mx_132 : iv_mx 132 = 2 := by decide +kernel
theorem rt_132 : iv_rt 132 = none := by decide +kernel
def fm_132_54 : Nat → Int32 → fx_S → Option (fx_S)
  | 0, _, _ => none
  | n + 1, x1, σ =>
    if (340 : Int32) ≤ x1 then (
      some (fx_w1 σ 215 2 ((σ.1 215 2) + (1 : Int32)))) else (
      (fx_ld σ 216 x1).bind fun v3 =>
      (fx_st σ 217 (((340 : Int32) * (σ.1 215 2)) + x1) v3).bind fun t6 =>
      fm_132_54 n (x1 + (1 : Int32)) t6)
theorem fe_132_54 {d : Nat} (hd : 0 ≤ d) : ∀ (n : Nat) (x1 : Int32) (σ : fx_S) (q : fx_S), fm_132_54 n x1 σ = some q → fx_E none 132 d 54 [some (.ref 215), some (.int x1)] [] σ none q := by
  intro n
  induction n with
  | zero =>
    intro x1 σ q  h
    rw [fm_132_54] at h
    exact fx_no h
  | succ n ih =>
    intro x1 σ q  h
    rw [fm_132_54] at h
    refine fs_iload_n (k := 1) (p := 55) (by decide +kernel) rfl rfl ?_
    refine fs_sipush (n := 340) (p := 58) (by decide +kernel) rfl ks_340 ?_
    by_cases c2 : (340 : Int32) ≤ x1
    · rw [if_pos c2] at h
      refine fs_icmp_ge_t (off := 30) (t := 88) (by decide +kernel) (by decide +kernel) c2 ?_
      refine fs_aload_n (k := 0) (p := 89) (by decide +kernel) rfl rfl ?_
      refine fs_dup (p := 90) (by decide +kernel) rfl rfl ?_
      refine fs_gfi (idx := 103) (ci := 10) (j := 2) (p := 93) (by decide +kernel) rfl (by decide +kernel) fo_215 ?_
      refine fs_iconst (n := 1) (p := 94) (by decide +kernel) rfl kc_1 ?_
      refine fs_iadd (p := 95) (by decide +kernel) rfl ?_
      refine fs_pfi (idx := 103) (ci := 10) (j := 2) (p := 98) (by decide +kernel) rfl (by decide +kernel) (by decide +kernel) fo_215 (fx_oki _ (by decide +kernel)) ?_
      have h := Option.some.inj h
      subst h
      exact fs_ret (by decide +kernel) rt_132
    · rw [if_neg c2] at h
      refine fs_icmp_ge_f (off := 30) (t := 88) (p := 61) (by decide +kernel) (by decide +kernel) rfl c2 ?_
      refine fs_aload_n (k := 0) (p := 62) (by decide +kernel) rfl rfl ?_
      refine fs_gfr (idx := 13) (ci := 10) (j := 1) (p := 65) (by decide +kernel) rfl (by decide +kernel) fo_215 (fr_a215_1) ?_
      refine fs_sipush (n := 340) (p := 68) (by decide +kernel) rfl ks_340 ?_
      refine fs_aload_n (k := 0) (p := 69) (by decide +kernel) rfl rfl ?_
      refine fs_gfi (idx := 103) (ci := 10) (j := 2) (p := 72) (by decide +kernel) rfl (by decide +kernel) fo_215 ?_
      refine fs_imul (p := 73) (by decide +kernel) rfl ?_
      refine fs_iload_n (k := 1) (p := 74) (by decide +kernel) rfl rfl ?_
      refine fs_iadd (p := 75) (by decide +kernel) rfl ?_
      refine fs_aload_n (k := 0) (p := 76) (by decide +kernel) rfl rfl ?_
      refine fs_gfr (idx := 9) (ci := 10) (j := 0) (p := 79) (by decide +kernel) rfl (by decide +kernel) fo_215 (fr_a215_0) ?_
      refine fs_iload_n (k := 1) (p := 80) (by decide +kernel) rfl rfl ?_
      obtain ⟨v3, w4, h⟩ := fx_bd h
      refine fs_iaload (p := 81) (by decide +kernel) rfl w4 ?_
      obtain ⟨t6, w7, h⟩ := fx_bd h
      refine fs_iastore (p := 82) (by decide +kernel) rfl w7 ?_
      refine fs_iinc (k := 1) (n := 1) (p := 85) (M := 2) (al' := [some (.ref 215), some (.int (x1 + (1 : Int32)))]) (by decide +kernel) rfl kc_1 mx_132 rfl rfl rfl ?_
      refine fs_goto (off := -31) (p := 54) (by decide +kernel) (by decide +kernel) ?_
      exact ih _ _ _ h
def fm_132_52 (σ : fx_S) : Option (fx_S) :=
  fm_132_54 100000 (0 : Int32) σ
theorem fe_132_52 {d : Nat} (hd : 0 ≤ d) (o1 : Option Value) (σ : fx_S) (q : fx_S) (h : fm_132_52  σ = some q) : fx_E none 132 d 52 [some (.ref 215), o1] [] σ none q := by
  unfold fm_132_52 at h
  refine fs_iconst (n := 0) (p := 53) (by decide +kernel) rfl kc_0 ?_
  refine fs_istore_n (k := 1) (p := 54) (M := 2) (al' := [some (.ref 215), some (.int (0 : Int32))]) (by decide +kernel) rfl mx_132 rfl rfl ?_
  exact fe_132_54 hd 100000 _ _ _ h
def fm_132_13 : Nat → Int32 → fx_S → Option (fx_S)
  | 0, _, _ => none
  | n + 1, x1, σ =>
    if (2720 : Int32) ≤ x1 then (
      fm_132_52 (fx_w1 σ 215 2 ((σ.1 215 2) - (1 : Int32)))) else (
      (fx_ld σ 217 x1).bind fun v3 =>
      (fx_st σ 217 (x1 - (340 : Int32)) v3).bind fun t6 =>
      fm_132_13 n (x1 + (1 : Int32)) t6)
theorem fe_132_13 {d : Nat} (hd : 0 ≤ d) : ∀ (n : Nat) (x1 : Int32) (σ : fx_S) (q : fx_S), fm_132_13 n x1 σ = some q → fx_E none 132 d 13 [some (.ref 215), some (.int x1)] [] σ none q := by
  intro n
  induction n with
  | zero =>
    intro x1 σ q  h
    rw [fm_132_13] at h
    exact fx_no h
  | succ n ih =>
    intro x1 σ q  h
    rw [fm_132_13] at h
    refine fs_iload_n (k := 1) (p := 14) (by decide +kernel) rfl rfl ?_
    refine fs_sipush (n := 2720) (p := 17) (by decide +kernel) rfl ks_2720 ?_
    by_cases c2 : (2720 : Int32) ≤ x1
    · rw [if_pos c2] at h
      refine fs_icmp_ge_t (off := 25) (t := 42) (by decide +kernel) (by decide +kernel) c2 ?_
      refine fs_aload_n (k := 0) (p := 43) (by decide +kernel) rfl rfl ?_
      refine fs_dup (p := 44) (by decide +kernel) rfl rfl ?_
      refine fs_gfi (idx := 103) (ci := 10) (j := 2) (p := 47) (by decide +kernel) rfl (by decide +kernel) fo_215 ?_
      refine fs_iconst (n := 1) (p := 48) (by decide +kernel) rfl kc_1 ?_
      refine fs_isub (p := 49) (by decide +kernel) rfl ?_
      refine fs_pfi (idx := 103) (ci := 10) (j := 2) (p := 52) (by decide +kernel) rfl (by decide +kernel) (by decide +kernel) fo_215 (fx_oki _ (by decide +kernel)) ?_
      exact fe_132_52 hd _ _ _ h
    · rw [if_neg c2] at h
      refine fs_icmp_ge_f (off := 25) (t := 42) (p := 20) (by decide +kernel) (by decide +kernel) rfl c2 ?_
      refine fs_aload_n (k := 0) (p := 21) (by decide +kernel) rfl rfl ?_
      refine fs_gfr (idx := 13) (ci := 10) (j := 1) (p := 24) (by decide +kernel) rfl (by decide +kernel) fo_215 (fr_a215_1) ?_
      refine fs_iload_n (k := 1) (p := 25) (by decide +kernel) rfl rfl ?_
      refine fs_sipush (n := 340) (p := 28) (by decide +kernel) rfl ks_340 ?_
      refine fs_isub (p := 29) (by decide +kernel) rfl ?_
      refine fs_aload_n (k := 0) (p := 30) (by decide +kernel) rfl rfl ?_
      refine fs_gfr (idx := 13) (ci := 10) (j := 1) (p := 33) (by decide +kernel) rfl (by decide +kernel) fo_215 (fr_a215_1) ?_
      refine fs_iload_n (k := 1) (p := 34) (by decide +kernel) rfl rfl ?_
      obtain ⟨v3, w4, h⟩ := fx_bd h
      refine fs_iaload (p := 35) (by decide +kernel) rfl w4 ?_
      obtain ⟨t6, w7, h⟩ := fx_bd h
      refine fs_iastore (p := 36) (by decide +kernel) rfl w7 ?_
      refine fs_iinc (k := 1) (n := 1) (p := 39) (M := 2) (al' := [some (.ref 215), some (.int (x1 + (1 : Int32)))]) (by decide +kernel) rfl kc_1 mx_132 rfl rfl rfl ?_
      refine fs_goto (off := -26) (p := 13) (by decide +kernel) (by decide +kernel) ?_
      exact ih _ _ _ h
def fm_132 (σ : fx_S) : Option (fx_S) :=
  if ¬ (σ.1 215 2) = (8 : Int32) then (
    fm_132_52 σ) else (
    fm_132_13 100000 (340 : Int32) σ)
theorem fe_132 {d : Nat} (hd : 0 ≤ d) {σ : fx_S} {q : fx_S} (h : fm_132 σ = some q) : fx_E none 132 d 0 [some (.ref 215), none] [] σ none q := by
  unfold fm_132 at h
  refine fs_aload_n (k := 0) (p := 1) (by decide +kernel) rfl rfl ?_
  refine fs_gfi (idx := 103) (ci := 10) (j := 2) (p := 4) (by decide +kernel) rfl (by decide +kernel) fo_215 ?_
  refine fs_bipush (n := 8) (p := 6) (by decide +kernel) rfl kb_8 ?_
  by_cases c20 : ¬ (σ.1 215 2) = (8 : Int32)
  · rw [if_pos c20] at h
    refine fs_icmp_ne_t (off := 46) (t := 52) (by decide +kernel) (by decide +kernel) c20 ?_
    exact fe_132_52 hd _ _ _ h
  · rw [if_neg c20] at h
    refine fs_icmp_ne_f (off := 46) (t := 52) (p := 9) (by decide +kernel) (by decide +kernel) rfl c20 ?_
    refine fs_sipush (n := 340) (p := 12) (by decide +kernel) rfl ks_340 ?_
    refine fs_istore_n (k := 1) (p := 13) (M := 2) (al' := [some (.ref 215), some (.int (340 : Int32))]) (by decide +kernel) rfl mx_132 rfl rfl ?_
    exact fe_132_13 hd 100000 _ _ _ h

/-! ZoneSharesModel.undo()I -/
theorem mx_133 : iv_mx 133 = 2 := by decide +kernel
theorem rt_133 : iv_rt 133 = some .int := by decide +kernel
def fm_133_21 : Nat → Int32 → fx_S → Option (Int32 × fx_S)
  | 0, _, _ => none
  | n + 1, x1, σ =>
    if (340 : Int32) ≤ x1 then (
      some ((σ.1 215 2), σ)) else (
      (fx_ld σ 217 (((340 : Int32) * (σ.1 215 2)) + x1)).bind fun v3 =>
      (fx_st σ 216 x1 v3).bind fun t6 =>
      fm_133_21 n (x1 + (1 : Int32)) t6)
theorem fe_133_21 {d : Nat} (hd : 0 ≤ d) : ∀ (n : Nat) (x1 : Int32) (σ : fx_S) (q : Int32 × fx_S), fm_133_21 n x1 σ = some q → fx_E none 133 d 21 [some (.ref 215), some (.int x1)] [] σ (some (.int q.1)) q.2 := by
  intro n
  induction n with
  | zero =>
    intro x1 σ q  h
    rw [fm_133_21] at h
    exact fx_no h
  | succ n ih =>
    intro x1 σ q  h
    rw [fm_133_21] at h
    refine fs_iload_n (k := 1) (p := 22) (by decide +kernel) rfl rfl ?_
    refine fs_sipush (n := 340) (p := 25) (by decide +kernel) rfl ks_340 ?_
    by_cases c2 : (340 : Int32) ≤ x1
    · rw [if_pos c2] at h
      refine fs_icmp_ge_t (off := 30) (t := 55) (by decide +kernel) (by decide +kernel) c2 ?_
      refine fs_aload_n (k := 0) (p := 56) (by decide +kernel) rfl rfl ?_
      refine fs_gfi (idx := 103) (ci := 10) (j := 2) (p := 59) (by decide +kernel) rfl (by decide +kernel) fo_215 ?_
      have h := Option.some.inj h
      subst h
      exact fs_iret (by decide +kernel) rt_133
    · rw [if_neg c2] at h
      refine fs_icmp_ge_f (off := 30) (t := 55) (p := 28) (by decide +kernel) (by decide +kernel) rfl c2 ?_
      refine fs_aload_n (k := 0) (p := 29) (by decide +kernel) rfl rfl ?_
      refine fs_gfr (idx := 9) (ci := 10) (j := 0) (p := 32) (by decide +kernel) rfl (by decide +kernel) fo_215 (fr_a215_0) ?_
      refine fs_iload_n (k := 1) (p := 33) (by decide +kernel) rfl rfl ?_
      refine fs_aload_n (k := 0) (p := 34) (by decide +kernel) rfl rfl ?_
      refine fs_gfr (idx := 13) (ci := 10) (j := 1) (p := 37) (by decide +kernel) rfl (by decide +kernel) fo_215 (fr_a215_1) ?_
      refine fs_sipush (n := 340) (p := 40) (by decide +kernel) rfl ks_340 ?_
      refine fs_aload_n (k := 0) (p := 41) (by decide +kernel) rfl rfl ?_
      refine fs_gfi (idx := 103) (ci := 10) (j := 2) (p := 44) (by decide +kernel) rfl (by decide +kernel) fo_215 ?_
      refine fs_imul (p := 45) (by decide +kernel) rfl ?_
      refine fs_iload_n (k := 1) (p := 46) (by decide +kernel) rfl rfl ?_
      refine fs_iadd (p := 47) (by decide +kernel) rfl ?_
      obtain ⟨v3, w4, h⟩ := fx_bd h
      refine fs_iaload (p := 48) (by decide +kernel) rfl w4 ?_
      obtain ⟨t6, w7, h⟩ := fx_bd h
      refine fs_iastore (p := 49) (by decide +kernel) rfl w7 ?_
      refine fs_iinc (k := 1) (n := 1) (p := 52) (M := 2) (al' := [some (.ref 215), some (.int (x1 + (1 : Int32)))]) (by decide +kernel) rfl kc_1 mx_133 rfl rfl rfl ?_
      refine fs_goto (off := -31) (p := 21) (by decide +kernel) (by decide +kernel) ?_
      exact ih _ _ _ h
def fm_133 (σ : fx_S) : Option (Int32 × fx_S) :=
  if ¬ (σ.1 215 2) = 0 then (
    fm_133_21 100000 (0 : Int32) (fx_w1 σ 215 2 ((σ.1 215 2) - (1 : Int32)))) else (
    some ((-1 : Int32), σ))
theorem fe_133 {d : Nat} (hd : 0 ≤ d) {σ : fx_S} {q : Int32 × fx_S} (h : fm_133 σ = some q) : fx_E none 133 d 0 [some (.ref 215), none] [] σ (some (.int q.1)) q.2 := by
  unfold fm_133 at h
  refine fs_aload_n (k := 0) (p := 1) (by decide +kernel) rfl rfl ?_
  refine fs_gfi (idx := 103) (ci := 10) (j := 2) (p := 4) (by decide +kernel) rfl (by decide +kernel) fo_215 ?_
  by_cases c12 : ¬ (σ.1 215 2) = 0
  · rw [if_pos c12] at h
    refine fs_if_ne_t (off := 5) (t := 9) (by decide +kernel) (by decide +kernel) c12 ?_
    refine fs_aload_n (k := 0) (p := 10) (by decide +kernel) rfl rfl ?_
    refine fs_dup (p := 11) (by decide +kernel) rfl rfl ?_
    refine fs_gfi (idx := 103) (ci := 10) (j := 2) (p := 14) (by decide +kernel) rfl (by decide +kernel) fo_215 ?_
    refine fs_iconst (n := 1) (p := 15) (by decide +kernel) rfl kc_1 ?_
    refine fs_isub (p := 16) (by decide +kernel) rfl ?_
    refine fs_pfi (idx := 103) (ci := 10) (j := 2) (p := 19) (by decide +kernel) rfl (by decide +kernel) (by decide +kernel) fo_215 (fx_oki _ (by decide +kernel)) ?_
    refine fs_iconst (n := 0) (p := 20) (by decide +kernel) rfl kc_0 ?_
    refine fs_istore_n (k := 1) (p := 21) (M := 2) (al' := [some (.ref 215), some (.int (0 : Int32))]) (by decide +kernel) rfl mx_133 rfl rfl ?_
    exact fe_133_21 hd 100000 _ _ _ h
  · rw [if_neg c12] at h
    refine fs_if_ne_f (off := 5) (t := 9) (p := 7) (by decide +kernel) (by decide +kernel) rfl c12 ?_
    refine fs_iconst (n := -1) (p := 8) (by decide +kernel) rfl kc_m1 ?_
    have h := Option.some.inj h
    subst h
    exact fs_iret (by decide +kernel) rt_133

/-! ZoneSharesModel.puts(I)V -/
theorem mx_135 : iv_mx 135 = 3 := by decide +kernel
theorem rt_135 : iv_rt 135 = none := by decide +kernel
def fm_135_3 : Nat → Int32 → Int32 → fx_S → Option (fx_S)
  | 0, _, _, _ => none
  | n + 1, x1, x2, σ =>
    if x2 < 0 then (
      some σ) else (
      (fx_stb σ 218 (σ.1 215 4) ((x1 >>> (x2 &&& 31))).toInt8.toInt32).bind fun t3 =>
      fm_135_3 n x1 (x2 + (-8 : Int32)) (fx_w1 t3 215 4 ((t3.1 215 4) + (1 : Int32))))
theorem fe_135_3 {d : Nat} (hd : 0 ≤ d) : ∀ (n : Nat) (x1 : Int32) (x2 : Int32) (σ : fx_S) (q : fx_S), fm_135_3 n x1 x2 σ = some q → fx_E none 135 d 3 [some (.ref 215), some (.int x1), some (.int x2)] [] σ none q := by
  intro n
  induction n with
  | zero =>
    intro x1 x2 σ q  h
    rw [fm_135_3] at h
    exact fx_no h
  | succ n ih =>
    intro x1 x2 σ q  h
    rw [fm_135_3] at h
    refine fs_iload_n (k := 2) (p := 4) (by decide +kernel) rfl rfl ?_
    by_cases c2 : x2 < 0
    · rw [if_pos c2] at h
      refine fs_if_lt_t (off := 32) (t := 36) (by decide +kernel) (by decide +kernel) c2 ?_
      have h := Option.some.inj h
      subst h
      exact fs_ret (by decide +kernel) rt_135
    · rw [if_neg c2] at h
      refine fs_if_lt_f (off := 32) (t := 36) (p := 7) (by decide +kernel) (by decide +kernel) rfl c2 ?_
      refine fs_aload_n (k := 0) (p := 8) (by decide +kernel) rfl rfl ?_
      refine fs_gfr (idx := 16) (ci := 10) (j := 3) (p := 11) (by decide +kernel) rfl (by decide +kernel) fo_215 (fr_a215_3) ?_
      refine fs_aload_n (k := 0) (p := 12) (by decide +kernel) rfl rfl ?_
      refine fs_gfi (idx := 107) (ci := 10) (j := 4) (p := 15) (by decide +kernel) rfl (by decide +kernel) fo_215 ?_
      refine fs_iload_n (k := 1) (p := 16) (by decide +kernel) rfl rfl ?_
      refine fs_iload_n (k := 2) (p := 17) (by decide +kernel) rfl rfl ?_
      refine fs_ishr (p := 18) (by decide +kernel) rfl ?_
      refine fs_i2b (p := 19) (by decide +kernel) rfl ?_
      obtain ⟨t3, w4, h⟩ := fx_bd h
      refine fs_bastore (p := 20) (by decide +kernel) rfl w4 ?_
      refine fs_aload_n (k := 0) (p := 21) (by decide +kernel) rfl rfl ?_
      refine fs_dup (p := 22) (by decide +kernel) rfl rfl ?_
      refine fs_gfi (idx := 107) (ci := 10) (j := 4) (p := 25) (by decide +kernel) rfl (by decide +kernel) fo_215 ?_
      refine fs_iconst (n := 1) (p := 26) (by decide +kernel) rfl kc_1 ?_
      refine fs_iadd (p := 27) (by decide +kernel) rfl ?_
      refine fs_pfi (idx := 107) (ci := 10) (j := 4) (p := 30) (by decide +kernel) rfl (by decide +kernel) (by decide +kernel) fo_215 (fx_oki _ (by decide +kernel)) ?_
      refine fs_iinc (k := 2) (n := -8) (p := 33) (M := 3) (al' := [some (.ref 215), some (.int x1), some (.int (x2 + (-8 : Int32)))]) (by decide +kernel) rfl kc_m8 mx_135 rfl rfl rfl ?_
      refine fs_goto (off := -30) (p := 3) (by decide +kernel) (by decide +kernel) ?_
      exact ih _ _ _ _ h
def fm_135 (x1 : Int32) (σ : fx_S) : Option (fx_S) :=
  fm_135_3 100000 x1 (24 : Int32) σ
theorem fe_135 {d : Nat} (hd : 0 ≤ d) {x1 : Int32} {σ : fx_S} {q : fx_S} (h : fm_135 x1 σ = some q) : fx_E none 135 d 0 [some (.ref 215), some (.int x1), none] [] σ none q := by
  unfold fm_135 at h
  refine fs_bipush (n := 24) (p := 2) (by decide +kernel) rfl kb_24 ?_
  refine fs_istore_n (k := 2) (p := 3) (M := 3) (al' := [some (.ref 215), some (.int x1), some (.int (24 : Int32))]) (by decide +kernel) rfl mx_135 rfl rfl ?_
  exact fe_135_3 hd 100000 _ _ _ _ h

/-! ZoneSharesModel.end(I)I -/
theorem mx_136 : iv_mx 136 = 2 := by decide +kernel
theorem rt_136 : iv_rt 136 = some .int := by decide +kernel
def fm_136 (x1 : Int32) (σ : fx_S) : Option (Int32 × fx_S) :=
  if x1 < 0 then (
    some ((-1 : Int32), σ)) else (
    if x1 ≤ (σ.1 215 4) then (
      some (x1, (fx_w1 σ 215 4 x1))) else (
      some ((-1 : Int32), σ)))
theorem fe_136 {d : Nat} (hd : 0 ≤ d) {x1 : Int32} {σ : fx_S} {q : Int32 × fx_S} (h : fm_136 x1 σ = some q) : fx_E none 136 d 0 [some (.ref 215), some (.int x1)] [] σ (some (.int q.1)) q.2 := by
  unfold fm_136 at h
  refine fs_iload_n (k := 1) (p := 1) (by decide +kernel) rfl rfl ?_
  by_cases c6 : x1 < 0
  · rw [if_pos c6] at h
    refine fs_if_lt_t (off := 11) (t := 12) (by decide +kernel) (by decide +kernel) c6 ?_
    refine fs_iconst (n := -1) (p := 13) (by decide +kernel) rfl kc_m1 ?_
    have h := Option.some.inj h
    subst h
    exact fs_iret (by decide +kernel) rt_136
  · rw [if_neg c6] at h
    refine fs_if_lt_f (off := 11) (t := 12) (p := 4) (by decide +kernel) (by decide +kernel) rfl c6 ?_
    refine fs_iload_n (k := 1) (p := 5) (by decide +kernel) rfl rfl ?_
    refine fs_aload_n (k := 0) (p := 6) (by decide +kernel) rfl rfl ?_
    refine fs_gfi (idx := 107) (ci := 10) (j := 4) (p := 9) (by decide +kernel) rfl (by decide +kernel) fo_215 ?_
    by_cases c8 : x1 ≤ (σ.1 215 4)
    · rw [if_pos c8] at h
      refine fs_icmp_le_t (off := 5) (t := 14) (by decide +kernel) (by decide +kernel) c8 ?_
      refine fs_aload_n (k := 0) (p := 15) (by decide +kernel) rfl rfl ?_
      refine fs_iload_n (k := 1) (p := 16) (by decide +kernel) rfl rfl ?_
      refine fs_pfi (idx := 107) (ci := 10) (j := 4) (p := 19) (by decide +kernel) rfl (by decide +kernel) (by decide +kernel) fo_215 (fx_oki _ (by decide +kernel)) ?_
      refine fs_iload_n (k := 1) (p := 20) (by decide +kernel) rfl rfl ?_
      have h := Option.some.inj h
      subst h
      exact fs_iret (by decide +kernel) rt_136
    · rw [if_neg c8] at h
      refine fs_icmp_le_f (off := 5) (t := 14) (p := 12) (by decide +kernel) (by decide +kernel) rfl c8 ?_
      refine fs_iconst (n := -1) (p := 13) (by decide +kernel) rfl kc_m1 ?_
      have h := Option.some.inj h
      subst h
      exact fs_iret (by decide +kernel) rt_136

/-! ZoneSharesModel.sign()I -/
theorem mx_137 : iv_mx 137 = 1 := by decide +kernel
theorem rt_137 : iv_rt 137 = some .int := by decide +kernel
def fm_137 (σ : fx_S) : Option (Int32 × fx_S) :=
  if (σ.1 215 4) ≤ (σ.1 215 5) then (
    some ((-1 : Int32), σ)) else (
    (fx_ldb σ 218 (σ.1 215 5)).bind fun v10 =>
    some ((v10 &&& (255 : Int32)), σ))
theorem fe_137 {d : Nat} (hd : 0 ≤ d) {σ : fx_S} {q : Int32 × fx_S} (h : fm_137 σ = some q) : fx_E none 137 d 0 [some (.ref 215)] [] σ (some (.int q.1)) q.2 := by
  unfold fm_137 at h
  refine fs_aload_n (k := 0) (p := 1) (by decide +kernel) rfl rfl ?_
  refine fs_gfi (idx := 114) (ci := 10) (j := 5) (p := 4) (by decide +kernel) rfl (by decide +kernel) fo_215 ?_
  refine fs_aload_n (k := 0) (p := 5) (by decide +kernel) rfl rfl ?_
  refine fs_gfi (idx := 107) (ci := 10) (j := 4) (p := 8) (by decide +kernel) rfl (by decide +kernel) fo_215 ?_
  by_cases c9 : (σ.1 215 4) ≤ (σ.1 215 5)
  · rw [if_pos c9] at h
    refine fs_icmp_ge_t (off := 19) (t := 27) (by decide +kernel) (by decide +kernel) c9 ?_
    refine fs_iconst (n := -1) (p := 28) (by decide +kernel) rfl kc_m1 ?_
    have h := Option.some.inj h
    subst h
    exact fs_iret (by decide +kernel) rt_137
  · rw [if_neg c9] at h
    refine fs_icmp_ge_f (off := 19) (t := 27) (p := 11) (by decide +kernel) (by decide +kernel) rfl c9 ?_
    refine fs_aload_n (k := 0) (p := 12) (by decide +kernel) rfl rfl ?_
    refine fs_gfr (idx := 16) (ci := 10) (j := 3) (p := 15) (by decide +kernel) rfl (by decide +kernel) fo_215 (fr_a215_3) ?_
    refine fs_aload_n (k := 0) (p := 16) (by decide +kernel) rfl rfl ?_
    refine fs_gfi (idx := 114) (ci := 10) (j := 5) (p := 19) (by decide +kernel) rfl (by decide +kernel) fo_215 ?_
    obtain ⟨v10, w11, h⟩ := fx_bd h
    refine fs_baload (p := 20) (by decide +kernel) rfl w11 ?_
    refine fs_sipush (n := 255) (p := 23) (by decide +kernel) rfl ks_255 ?_
    refine fs_iand (p := 24) (by decide +kernel) rfl ?_
    refine fs_goto (off := 4) (p := 28) (by decide +kernel) (by decide +kernel) ?_
    have h := Option.some.inj h
    subst h
    exact fs_iret (by decide +kernel) rt_137

/-! ZoneSharesModel.isRight()Z -/
theorem mx_138 : iv_mx 138 = 1 := by decide +kernel
theorem rt_138 : iv_rt 138 = some .boolean := by decide +kernel
def fm_138 (σ : fx_S) : Option (Bool × fx_S) :=
  if ¬ (σ.1 215 6) = (-1 : Int32) then (
    some (false, σ)) else (
    some (true, σ))
theorem fe_138 {d : Nat} (hd : 0 ≤ d) {σ : fx_S} {q : Bool × fx_S} (h : fm_138 σ = some q) : fx_E none 138 d 0 [some (.ref 215)] [] σ (some (.int (fx_b q.1))) q.2 := by
  unfold fm_138 at h
  refine fs_aload_n (k := 0) (p := 1) (by decide +kernel) rfl rfl ?_
  refine fs_gfi (idx := 117) (ci := 10) (j := 6) (p := 4) (by decide +kernel) rfl (by decide +kernel) fo_215 ?_
  refine fs_iconst (n := -1) (p := 5) (by decide +kernel) rfl kc_m1 ?_
  by_cases c4 : ¬ (σ.1 215 6) = (-1 : Int32)
  · rw [if_pos c4] at h
    refine fs_icmp_ne_t (off := 7) (t := 12) (by decide +kernel) (by decide +kernel) c4 ?_
    refine fs_iconst (n := 0) (p := 13) (by decide +kernel) rfl kc_0 ?_
    have h := Option.some.inj h
    subst h
    exact fs_zret (b := false) (by decide +kernel) rt_138
  · rw [if_neg c4] at h
    refine fs_icmp_ne_f (off := 7) (t := 12) (p := 8) (by decide +kernel) (by decide +kernel) rfl c4 ?_
    refine fs_iconst (n := 1) (p := 9) (by decide +kernel) rfl kc_1 ?_
    refine fs_goto (off := 4) (p := 13) (by decide +kernel) (by decide +kernel) ?_
    have h := Option.some.inj h
    subst h
    exact fs_zret (b := true) (by decide +kernel) rt_138

/-! ZoneSharesModel.fails(II)V -/
theorem mx_139 : iv_mx 139 = 3 := by decide +kernel
theorem rt_139 : iv_rt 139 = none := by decide +kernel
def fm_139 (x1 : Int32) (x2 : Int32) (σ : fx_S) : Option (fx_S) :=
  (fm_138 σ).bind fun q5 =>
  if (fx_b q5.1) = 0 then (
    some q5.2) else (
    some (fx_w1 q5.2 215 6 (((8 : Int32) * x2) + x1)))
theorem fe_139 {d : Nat} (hd : 1 ≤ d) {x1 : Int32} {x2 : Int32} {σ : fx_S} {q : fx_S} (h : fm_139 x1 x2 σ = some q) : fx_E none 139 d 0 [some (.ref 215), some (.int x1), some (.int x2)] [] σ none q := by
  unfold fm_139 at h
  refine fs_aload_n (k := 0) (p := 1) (by decide +kernel) rfl rfl ?_
  obtain ⟨q5, w4, h⟩ := fx_bd h
  refine fs_callV (idx := 120) (mj := 138) (ci := 10) (na := 0) (mx := 1) (p := 4) (args := [.ref 215]) (rest := []) (al2 := [some (.ref 215)]) (by decide +kernel) rfl (by decide +kernel) fo_215 rfl rfl rfl rfl rfl rfl rfl (by omega) (fun d' hd' => fe_138 (by omega) w4) rfl ?_
  by_cases c6 : (fx_b q5.1) = 0
  · rw [if_pos c6] at h
    refine fs_if_eq_t (off := 13) (t := 17) (by decide +kernel) (by decide +kernel) c6 ?_
    have h := Option.some.inj h
    subst h
    exact fs_ret (by decide +kernel) rt_139
  · rw [if_neg c6] at h
    refine fs_if_eq_f (off := 13) (t := 17) (p := 7) (by decide +kernel) (by decide +kernel) rfl c6 ?_
    refine fs_aload_n (k := 0) (p := 8) (by decide +kernel) rfl rfl ?_
    refine fs_bipush (n := 8) (p := 10) (by decide +kernel) rfl kb_8 ?_
    refine fs_iload_n (k := 2) (p := 11) (by decide +kernel) rfl rfl ?_
    refine fs_imul (p := 12) (by decide +kernel) rfl ?_
    refine fs_iload_n (k := 1) (p := 13) (by decide +kernel) rfl rfl ?_
    refine fs_iadd (p := 14) (by decide +kernel) rfl ?_
    refine fs_pfi (idx := 117) (ci := 10) (j := 6) (p := 17) (by decide +kernel) rfl (by decide +kernel) (by decide +kernel) fo_215 (fx_oki _ (by decide +kernel)) ?_
    have h := Option.some.inj h
    subst h
    exact fs_ret (by decide +kernel) rt_139

/-! ZoneSharesModel.isSign(II)Z -/
theorem mx_140 : iv_mx 140 = 2 := by decide +kernel
theorem rt_140 : iv_rt 140 = some .boolean := by decide +kernel
def fm_140 (x0 : Int32) (x1 : Int32) (σ : fx_S) : Option (Bool × fx_S) :=
  if ¬ x0 = (2 : Int32) then (
    (fm_130 (x1).toInt64 (97 : Int64) (104 : Int64) σ).bind fun q15 =>
    if ¬ (fx_b q15.1) = 0 then (
      some (true, q15.2)) else (
      if ¬ x1 = (46 : Int32) then (
        some (false, q15.2)) else (
        some (true, q15.2)))) else (
    (fm_130 (x1).toInt64 (48 : Int64) (51 : Int64) σ).bind fun q20 =>
    some (q20.1, q20.2))
theorem fe_140 {d : Nat} (hd : 1 ≤ d) {x0 : Int32} {x1 : Int32} {σ : fx_S} {q : Bool × fx_S} (h : fm_140 x0 x1 σ = some q) : fx_E none 140 d 0 [some (.int x0), some (.int x1)] [] σ (some (.int (fx_b q.1))) q.2 := by
  unfold fm_140 at h
  refine fs_iload_n (k := 0) (p := 1) (by decide +kernel) rfl rfl ?_
  refine fs_iconst (n := 2) (p := 2) (by decide +kernel) rfl kc_2 ?_
  by_cases c12 : ¬ x0 = (2 : Int32)
  · rw [if_pos c12] at h
    refine fs_icmp_ne_t (off := 17) (t := 19) (by decide +kernel) (by decide +kernel) c12 ?_
    refine fs_iload_n (k := 1) (p := 20) (by decide +kernel) rfl rfl ?_
    refine fs_i2l (p := 21) (by decide +kernel) rfl ?_
    refine fs_ldc2 (idx := 132) (p := 24) (x := 97) (by decide +kernel) rfl (by decide +kernel) ?_
    refine fs_ldc2 (idx := 134) (p := 27) (x := 104) (by decide +kernel) rfl (by decide +kernel) ?_
    obtain ⟨q15, w14, h⟩ := fx_bd h
    refine fs_callS (idx := 128) (mj := 130) (na := 3) (mx := 6) (p := 30) (args := [.long (x1).toInt64, .long (97 : Int64), .long (104 : Int64)]) (rest := []) (al2 := [some (.long (x1).toInt64), none, some (.long (97 : Int64)), none, some (.long (104 : Int64)), none]) (by decide +kernel) rfl (by decide +kernel) rfl rfl rfl rfl rfl rfl rfl (by omega) (fun d' hd' => fe_130 (by omega) w14) rfl ?_
    by_cases c16 : ¬ (fx_b q15.1) = 0
    · rw [if_pos c16] at h
      refine fs_if_ne_t (off := 9) (t := 39) (by decide +kernel) (by decide +kernel) c16 ?_
      refine fs_iconst (n := 1) (p := 40) (by decide +kernel) rfl kc_1 ?_
      refine fs_goto (off := 4) (p := 44) (by decide +kernel) (by decide +kernel) ?_
      have h := Option.some.inj h
      subst h
      exact fs_zret (b := true) (by decide +kernel) rt_140
    · rw [if_neg c16] at h
      refine fs_if_ne_f (off := 9) (t := 39) (p := 33) (by decide +kernel) (by decide +kernel) rfl c16 ?_
      refine fs_iload_n (k := 1) (p := 34) (by decide +kernel) rfl rfl ?_
      refine fs_bipush (n := 46) (p := 36) (by decide +kernel) rfl kb_46 ?_
      by_cases c17 : ¬ x1 = (46 : Int32)
      · rw [if_pos c17] at h
        refine fs_icmp_ne_t (off := 7) (t := 43) (by decide +kernel) (by decide +kernel) c17 ?_
        refine fs_iconst (n := 0) (p := 44) (by decide +kernel) rfl kc_0 ?_
        have h := Option.some.inj h
        subst h
        exact fs_zret (b := false) (by decide +kernel) rt_140
      · rw [if_neg c17] at h
        refine fs_icmp_ne_f (off := 7) (t := 43) (p := 39) (by decide +kernel) (by decide +kernel) rfl c17 ?_
        refine fs_iconst (n := 1) (p := 40) (by decide +kernel) rfl kc_1 ?_
        refine fs_goto (off := 4) (p := 44) (by decide +kernel) (by decide +kernel) ?_
        have h := Option.some.inj h
        subst h
        exact fs_zret (b := true) (by decide +kernel) rt_140
  · rw [if_neg c12] at h
    refine fs_icmp_ne_f (off := 17) (t := 19) (p := 5) (by decide +kernel) (by decide +kernel) rfl c12 ?_
    refine fs_iload_n (k := 1) (p := 6) (by decide +kernel) rfl rfl ?_
    refine fs_i2l (p := 7) (by decide +kernel) rfl ?_
    refine fs_ldc2 (idx := 124) (p := 10) (x := 48) (by decide +kernel) rfl (by decide +kernel) ?_
    refine fs_ldc2 (idx := 126) (p := 13) (x := 51) (by decide +kernel) rfl (by decide +kernel) ?_
    obtain ⟨q20, w19, h⟩ := fx_bd h
    refine fs_callS (idx := 128) (mj := 130) (na := 3) (mx := 6) (p := 16) (args := [.long (x1).toInt64, .long (48 : Int64), .long (51 : Int64)]) (rest := []) (al2 := [some (.long (x1).toInt64), none, some (.long (48 : Int64)), none, some (.long (51 : Int64)), none]) (by decide +kernel) rfl (by decide +kernel) rfl rfl rfl rfl rfl rfl rfl (by omega) (fun d' hd' => fe_130 (by omega) w19) rfl ?_
    refine fs_goto (off := 28) (p := 44) (by decide +kernel) (by decide +kernel) ?_
    have h := Option.some.inj h
    subst h
    exact fs_zret (b := q20.1) (by decide +kernel) rt_140

/-! ZoneSharesModel.codeOf(II)I -/
theorem mx_141 : iv_mx 141 = 2 := by decide +kernel
theorem rt_141 : iv_rt 141 = some .int := by decide +kernel
def fm_141 (x0 : Int32) (x1 : Int32) (σ : fx_S) : Option (Int32 × fx_S) :=
  if ¬ x0 = (2 : Int32) then (
    if ¬ x1 = (46 : Int32) then (
      some ((x1 - (97 : Int32)), σ)) else (
      some ((8 : Int32), σ))) else (
    some ((x1 - (48 : Int32)), σ))
theorem fe_141 {d : Nat} (hd : 0 ≤ d) {x0 : Int32} {x1 : Int32} {σ : fx_S} {q : Int32 × fx_S} (h : fm_141 x0 x1 σ = some q) : fx_E none 141 d 0 [some (.int x0), some (.int x1)] [] σ (some (.int q.1)) q.2 := by
  unfold fm_141 at h
  refine fs_iload_n (k := 0) (p := 1) (by decide +kernel) rfl rfl ?_
  refine fs_iconst (n := 2) (p := 2) (by decide +kernel) rfl kc_2 ?_
  by_cases c6 : ¬ x0 = (2 : Int32)
  · rw [if_pos c6] at h
    refine fs_icmp_ne_t (off := 10) (t := 12) (by decide +kernel) (by decide +kernel) c6 ?_
    refine fs_iload_n (k := 1) (p := 13) (by decide +kernel) rfl rfl ?_
    refine fs_bipush (n := 46) (p := 15) (by decide +kernel) rfl kb_46 ?_
    by_cases c8 : ¬ x1 = (46 : Int32)
    · rw [if_pos c8] at h
      refine fs_icmp_ne_t (off := 8) (t := 23) (by decide +kernel) (by decide +kernel) c8 ?_
      refine fs_iload_n (k := 1) (p := 24) (by decide +kernel) rfl rfl ?_
      refine fs_bipush (n := 97) (p := 26) (by decide +kernel) rfl kb_97 ?_
      refine fs_isub (p := 27) (by decide +kernel) rfl ?_
      have h := Option.some.inj h
      subst h
      exact fs_iret (by decide +kernel) rt_141
    · rw [if_neg c8] at h
      refine fs_icmp_ne_f (off := 8) (t := 23) (p := 18) (by decide +kernel) (by decide +kernel) rfl c8 ?_
      refine fs_bipush (n := 8) (p := 20) (by decide +kernel) rfl kb_8 ?_
      refine fs_goto (off := 7) (p := 27) (by decide +kernel) (by decide +kernel) ?_
      have h := Option.some.inj h
      subst h
      exact fs_iret (by decide +kernel) rt_141
  · rw [if_neg c6] at h
    refine fs_icmp_ne_f (off := 10) (t := 12) (p := 5) (by decide +kernel) (by decide +kernel) rfl c6 ?_
    refine fs_iload_n (k := 1) (p := 6) (by decide +kernel) rfl rfl ?_
    refine fs_bipush (n := 48) (p := 8) (by decide +kernel) rfl kb_48 ?_
    refine fs_isub (p := 9) (by decide +kernel) rfl ?_
    refine fs_goto (off := 18) (p := 27) (by decide +kernel) (by decide +kernel) ?_
    have h := Option.some.inj h
    subst h
    exact fs_iret (by decide +kernel) rt_141

/-! ZoneSharesModel.readsRow(II)V -/
theorem mx_142 : iv_mx 142 = 6 := by decide +kernel
theorem rt_142 : iv_rt 142 = none := by decide +kernel
def fm_142_168 (x4 : Int32) (σ : fx_S) : Option (fx_S) :=
  some (fx_w1 (fx_w1 σ 215 9 x4) 215 8 (((fx_w1 σ 215 9 x4).1 215 8) + (1 : Int32)))
theorem fe_142_168 {d : Nat} (hd : 2 ≤ d) (x4 : Int32) (o1 : Option Value) (o2 : Option Value) (o3 : Option Value) (o5 : Option Value) (σ : fx_S) (q : fx_S) (h : fm_142_168  x4 σ = some q) : fx_E none 142 d 168 [some (.ref 215), o1, o2, o3, some (.int x4), o5] [] σ none q := by
  unfold fm_142_168 at h
  refine fs_aload_n (k := 0) (p := 169) (by decide +kernel) rfl rfl ?_
  refine fs_iload (k := 4) (p := 171) (by decide +kernel) rfl rfl ?_
  refine fs_pfi (idx := 155) (ci := 10) (j := 9) (p := 174) (by decide +kernel) rfl (by decide +kernel) (by decide +kernel) fo_215 (fx_oki _ (by decide +kernel)) ?_
  refine fs_aload_n (k := 0) (p := 175) (by decide +kernel) rfl rfl ?_
  refine fs_dup (p := 176) (by decide +kernel) rfl rfl ?_
  refine fs_gfi (idx := 148) (ci := 10) (j := 8) (p := 179) (by decide +kernel) rfl (by decide +kernel) fo_215 ?_
  refine fs_iconst (n := 1) (p := 180) (by decide +kernel) rfl kc_1 ?_
  refine fs_iadd (p := 181) (by decide +kernel) rfl ?_
  refine fs_pfi (idx := 148) (ci := 10) (j := 8) (p := 184) (by decide +kernel) rfl (by decide +kernel) (by decide +kernel) fo_215 (fx_oki _ (by decide +kernel)) ?_
  have h := Option.some.inj h
  subst h
  exact fs_ret (by decide +kernel) rt_142
def fm_142_138 (x4 : Int32) (s1 : Int32) (σ : fx_S) : Option (fx_S) :=
  (fm_139 s1 (σ.1 215 5) σ).bind fun q2 =>
  fm_142_168 x4 q2
theorem fe_142_138 {d : Nat} (hd : 2 ≤ d) (x4 : Int32) (s1 : Int32) (o1 : Option Value) (o2 : Option Value) (o3 : Option Value) (o5 : Option Value) (σ : fx_S) (q : fx_S) (h : fm_142_138  x4 s1 σ = some q) : fx_E none 142 d 138 [some (.ref 215), o1, o2, o3, some (.int x4), o5] [.int s1, .ref 215] σ none q := by
  unfold fm_142_138 at h
  refine fs_aload_n (k := 0) (p := 139) (by decide +kernel) rfl rfl ?_
  refine fs_gfi (idx := 114) (ci := 10) (j := 5) (p := 142) (by decide +kernel) rfl (by decide +kernel) fo_215 ?_
  obtain ⟨q2, w1, h⟩ := fx_bd h
  refine fs_callV (idx := 144) (mj := 139) (ci := 10) (na := 2) (mx := 3) (p := 145) (args := [.ref 215, .int s1, .int (σ.1 215 5)]) (rest := []) (al2 := [some (.ref 215), some (.int s1), some (.int (σ.1 215 5))]) (by decide +kernel) rfl (by decide +kernel) fo_215 rfl rfl rfl rfl rfl rfl rfl (by omega) (fun d' hd' => fe_139 (by omega) w1) rfl ?_
  refine fs_goto (off := 23) (p := 168) (by decide +kernel) (by decide +kernel) ?_
  exact fe_142_168 hd _ _ _ _ _ _ _ h
def fm_142_114 (x1 : Int32) (x2 : Int32) (x4 : Int32) (s0 : Int32) (σ : fx_S) : Option (fx_S) :=
  if ¬ s0 = 0 then (
    if x2 = (-1 : Int32) then (
      fm_142_168 x4 σ) else (
      if x2 ≤ x4 then (
        fm_142_168 x4 σ) else (
        (fm_139 (2 : Int32) (σ.1 215 5) σ).bind fun q8 =>
        fm_142_168 x4 q8))) else (
    (fm_137 σ).bind fun q10 =>
    (fm_140 x1 q10.1 q10.2).bind fun q12 =>
    if (fx_b q12.1) = 0 then (
      fm_142_138 x4 (1 : Int32) q12.2) else (
      fm_142_138 x4 (3 : Int32) q12.2))
theorem fe_142_114 {d : Nat} (hd : 2 ≤ d) (x1 : Int32) (x2 : Int32) (x4 : Int32) (s0 : Int32) (o3 : Option Value) (σ : fx_S) (q : fx_S) (h : fm_142_114  x1 x2 x4 s0 σ = some q) : fx_E none 142 d 114 [some (.ref 215), some (.int x1), some (.int x2), o3, some (.int x4), none] [.int s0] σ none q := by
  unfold fm_142_114 at h
  refine fs_istore (k := 5) (p := 116) (M := 6) (al' := [some (.ref 215), some (.int x1), some (.int x2), o3, some (.int x4), some (.int s0)]) (by decide +kernel) rfl mx_142 rfl rfl ?_
  refine fs_iload (k := 5) (p := 118) (by decide +kernel) rfl rfl ?_
  by_cases c2 : ¬ s0 = 0
  · rw [if_pos c2] at h
    refine fs_if_ne_t (off := 30) (t := 148) (by decide +kernel) (by decide +kernel) c2 ?_
    refine fs_iload_n (k := 2) (p := 149) (by decide +kernel) rfl rfl ?_
    refine fs_iconst (n := -1) (p := 150) (by decide +kernel) rfl kc_m1 ?_
    by_cases c4 : x2 = (-1 : Int32)
    · rw [if_pos c4] at h
      refine fs_icmp_eq_t (off := 18) (t := 168) (by decide +kernel) (by decide +kernel) c4 ?_
      exact fe_142_168 hd _ _ _ _ _ _ _ h
    · rw [if_neg c4] at h
      refine fs_icmp_eq_f (off := 18) (t := 168) (p := 153) (by decide +kernel) (by decide +kernel) rfl c4 ?_
      refine fs_iload (k := 4) (p := 155) (by decide +kernel) rfl rfl ?_
      refine fs_iload_n (k := 2) (p := 156) (by decide +kernel) rfl rfl ?_
      by_cases c6 : x2 ≤ x4
      · rw [if_pos c6] at h
        refine fs_icmp_ge_t (off := 12) (t := 168) (by decide +kernel) (by decide +kernel) c6 ?_
        exact fe_142_168 hd _ _ _ _ _ _ _ h
      · rw [if_neg c6] at h
        refine fs_icmp_ge_f (off := 12) (t := 168) (p := 159) (by decide +kernel) (by decide +kernel) rfl c6 ?_
        refine fs_aload_n (k := 0) (p := 160) (by decide +kernel) rfl rfl ?_
        refine fs_iconst (n := 2) (p := 161) (by decide +kernel) rfl kc_2 ?_
        refine fs_aload_n (k := 0) (p := 162) (by decide +kernel) rfl rfl ?_
        refine fs_gfi (idx := 114) (ci := 10) (j := 5) (p := 165) (by decide +kernel) rfl (by decide +kernel) fo_215 ?_
        obtain ⟨q8, w7, h⟩ := fx_bd h
        refine fs_callV (idx := 144) (mj := 139) (ci := 10) (na := 2) (mx := 3) (p := 168) (args := [.ref 215, .int (2 : Int32), .int (σ.1 215 5)]) (rest := []) (al2 := [some (.ref 215), some (.int (2 : Int32)), some (.int (σ.1 215 5))]) (by decide +kernel) rfl (by decide +kernel) fo_215 rfl rfl rfl rfl rfl rfl rfl (by omega) (fun d' hd' => fe_139 (by omega) w7) rfl ?_
        exact fe_142_168 hd _ _ _ _ _ _ _ h
  · rw [if_neg c2] at h
    refine fs_if_ne_f (off := 30) (t := 148) (p := 121) (by decide +kernel) (by decide +kernel) rfl c2 ?_
    refine fs_aload_n (k := 0) (p := 122) (by decide +kernel) rfl rfl ?_
    refine fs_iload_n (k := 1) (p := 123) (by decide +kernel) rfl rfl ?_
    refine fs_aload_n (k := 0) (p := 124) (by decide +kernel) rfl rfl ?_
    obtain ⟨q10, w9, h⟩ := fx_bd h
    refine fs_callV (idx := 136) (mj := 137) (ci := 10) (na := 0) (mx := 1) (p := 127) (args := [.ref 215]) (rest := [.int x1, .ref 215]) (al2 := [some (.ref 215)]) (by decide +kernel) rfl (by decide +kernel) fo_215 rfl rfl rfl rfl rfl rfl rfl (by omega) (fun d' hd' => fe_137 (by omega) w9) rfl ?_
    obtain ⟨q12, w11, h⟩ := fx_bd h
    refine fs_callS (idx := 140) (mj := 140) (na := 2) (mx := 2) (p := 130) (args := [.int x1, .int q10.1]) (rest := [.ref 215]) (al2 := [some (.int x1), some (.int q10.1)]) (by decide +kernel) rfl (by decide +kernel) rfl rfl rfl rfl rfl rfl rfl (by omega) (fun d' hd' => fe_140 (by omega) w11) rfl ?_
    by_cases c13 : (fx_b q12.1) = 0
    · rw [if_pos c13] at h
      refine fs_if_eq_t (off := 7) (t := 137) (by decide +kernel) (by decide +kernel) c13 ?_
      refine fs_iconst (n := 1) (p := 138) (by decide +kernel) rfl kc_1 ?_
      exact fe_142_138 hd _ _ _ _ _ _ _ _ h
    · rw [if_neg c13] at h
      refine fs_if_eq_f (off := 7) (t := 137) (p := 133) (by decide +kernel) (by decide +kernel) rfl c13 ?_
      refine fs_iconst (n := 3) (p := 134) (by decide +kernel) rfl kc_3 ?_
      refine fs_goto (off := 4) (p := 138) (by decide +kernel) (by decide +kernel) ?_
      exact fe_142_138 hd _ _ _ _ _ _ _ _ h
def fm_142_92 (x1 : Int32) (x2 : Int32) (x4 : Int32) (σ : fx_S) : Option (fx_S) :=
  (fm_137 σ).bind fun q2 =>
  if q2.1 = (47 : Int32) then (
    fm_142_114 x1 x2 x4 (1 : Int32) q2.2) else (
    (fm_137 q2.2).bind fun q6 =>
    if ¬ q6.1 = (-1 : Int32) then (
      fm_142_114 x1 x2 x4 (0 : Int32) q6.2) else (
      fm_142_114 x1 x2 x4 (1 : Int32) q6.2))
theorem fe_142_92 {d : Nat} (hd : 2 ≤ d) (x1 : Int32) (x2 : Int32) (x4 : Int32) (o3 : Option Value) (σ : fx_S) (q : fx_S) (h : fm_142_92  x1 x2 x4 σ = some q) : fx_E none 142 d 92 [some (.ref 215), some (.int x1), some (.int x2), o3, some (.int x4), none] [] σ none q := by
  unfold fm_142_92 at h
  refine fs_aload_n (k := 0) (p := 93) (by decide +kernel) rfl rfl ?_
  obtain ⟨q2, w1, h⟩ := fx_bd h
  refine fs_callV (idx := 136) (mj := 137) (ci := 10) (na := 0) (mx := 1) (p := 96) (args := [.ref 215]) (rest := []) (al2 := [some (.ref 215)]) (by decide +kernel) rfl (by decide +kernel) fo_215 rfl rfl rfl rfl rfl rfl rfl (by omega) (fun d' hd' => fe_137 (by omega) w1) rfl ?_
  refine fs_bipush (n := 47) (p := 98) (by decide +kernel) rfl kb_47 ?_
  by_cases c4 : q2.1 = (47 : Int32)
  · rw [if_pos c4] at h
    refine fs_icmp_eq_t (off := 11) (t := 109) (by decide +kernel) (by decide +kernel) c4 ?_
    refine fs_iconst (n := 1) (p := 110) (by decide +kernel) rfl kc_1 ?_
    refine fs_goto (off := 4) (p := 114) (by decide +kernel) (by decide +kernel) ?_
    exact fe_142_114 hd _ _ _ _ _ _ _ h
  · rw [if_neg c4] at h
    refine fs_icmp_eq_f (off := 11) (t := 109) (p := 101) (by decide +kernel) (by decide +kernel) rfl c4 ?_
    refine fs_aload_n (k := 0) (p := 102) (by decide +kernel) rfl rfl ?_
    obtain ⟨q6, w5, h⟩ := fx_bd h
    refine fs_callV (idx := 136) (mj := 137) (ci := 10) (na := 0) (mx := 1) (p := 105) (args := [.ref 215]) (rest := []) (al2 := [some (.ref 215)]) (by decide +kernel) rfl (by decide +kernel) fo_215 rfl rfl rfl rfl rfl rfl rfl (by omega) (fun d' hd' => fe_137 (by omega) w5) rfl ?_
    refine fs_iconst (n := -1) (p := 106) (by decide +kernel) rfl kc_m1 ?_
    by_cases c8 : ¬ q6.1 = (-1 : Int32)
    · rw [if_pos c8] at h
      refine fs_icmp_ne_t (off := 7) (t := 113) (by decide +kernel) (by decide +kernel) c8 ?_
      refine fs_iconst (n := 0) (p := 114) (by decide +kernel) rfl kc_0 ?_
      exact fe_142_114 hd _ _ _ _ _ _ _ h
    · rw [if_neg c8] at h
      refine fs_icmp_ne_f (off := 7) (t := 113) (p := 109) (by decide +kernel) (by decide +kernel) rfl c8 ?_
      refine fs_iconst (n := 1) (p := 110) (by decide +kernel) rfl kc_1 ?_
      refine fs_goto (off := 4) (p := 114) (by decide +kernel) (by decide +kernel) ?_
      exact fe_142_114 hd _ _ _ _ _ _ _ h
def fm_142_36 : Nat → Int32 → Int32 → Int32 → Int32 → fx_S → Option (fx_S)
  | 0, _, _, _, _, _ => none
  | n + 1, x1, x2, x3, x4, σ =>
    if x3 ≤ x4 then (
      fm_142_92 x1 x2 x4 σ) else (
      (fm_137 σ).bind fun q5 =>
      (fm_140 x1 q5.1 q5.2).bind fun q7 =>
      if (fx_b q7.1) = 0 then (
        fm_142_92 x1 x2 x4 q7.2) else (
        (fm_137 q7.2).bind fun q10 =>
        (fm_141 x1 q10.1 q10.2).bind fun q12 =>
        (fx_st q12.2 219 (((12 : Int32) * (q7.2.1 215 8)) + x4) q12.1).bind fun t13 =>
        fm_142_36 n x1 x2 x3 (x4 + (1 : Int32)) (fx_w1 t13 215 5 ((t13.1 215 5) + (1 : Int32)))))
theorem fe_142_36 {d : Nat} (hd : 2 ≤ d) : ∀ (n : Nat) (x1 : Int32) (x2 : Int32) (x3 : Int32) (x4 : Int32) (σ : fx_S) (q : fx_S), fm_142_36 n x1 x2 x3 x4 σ = some q → fx_E none 142 d 36 [some (.ref 215), some (.int x1), some (.int x2), some (.int x3), some (.int x4), none] [] σ none q := by
  intro n
  induction n with
  | zero =>
    intro x1 x2 x3 x4 σ q  h
    rw [fm_142_36] at h
    exact fx_no h
  | succ n ih =>
    intro x1 x2 x3 x4 σ q  h
    rw [fm_142_36] at h
    refine fs_iload (k := 4) (p := 38) (by decide +kernel) rfl rfl ?_
    refine fs_iload_n (k := 3) (p := 39) (by decide +kernel) rfl rfl ?_
    by_cases c3 : x3 ≤ x4
    · rw [if_pos c3] at h
      refine fs_icmp_ge_t (off := 53) (t := 92) (by decide +kernel) (by decide +kernel) c3 ?_
      exact fe_142_92 hd _ _ _ _ _ _ h
    · rw [if_neg c3] at h
      refine fs_icmp_ge_f (off := 53) (t := 92) (p := 42) (by decide +kernel) (by decide +kernel) rfl c3 ?_
      refine fs_iload_n (k := 1) (p := 43) (by decide +kernel) rfl rfl ?_
      refine fs_aload_n (k := 0) (p := 44) (by decide +kernel) rfl rfl ?_
      obtain ⟨q5, w4, h⟩ := fx_bd h
      refine fs_callV (idx := 136) (mj := 137) (ci := 10) (na := 0) (mx := 1) (p := 47) (args := [.ref 215]) (rest := [.int x1]) (al2 := [some (.ref 215)]) (by decide +kernel) rfl (by decide +kernel) fo_215 rfl rfl rfl rfl rfl rfl rfl (by omega) (fun d' hd' => fe_137 (by omega) w4) rfl ?_
      obtain ⟨q7, w6, h⟩ := fx_bd h
      refine fs_callS (idx := 140) (mj := 140) (na := 2) (mx := 2) (p := 50) (args := [.int x1, .int q5.1]) (rest := []) (al2 := [some (.int x1), some (.int q5.1)]) (by decide +kernel) rfl (by decide +kernel) rfl rfl rfl rfl rfl rfl rfl (by omega) (fun d' hd' => fe_140 (by omega) w6) rfl ?_
      by_cases c8 : (fx_b q7.1) = 0
      · rw [if_pos c8] at h
        refine fs_if_eq_t (off := 42) (t := 92) (by decide +kernel) (by decide +kernel) c8 ?_
        exact fe_142_92 hd _ _ _ _ _ _ h
      · rw [if_neg c8] at h
        refine fs_if_eq_f (off := 42) (t := 92) (p := 53) (by decide +kernel) (by decide +kernel) rfl c8 ?_
        refine fs_aload_n (k := 0) (p := 54) (by decide +kernel) rfl rfl ?_
        refine fs_gfr (idx := 20) (ci := 10) (j := 7) (p := 57) (by decide +kernel) rfl (by decide +kernel) fo_215 (fr_a215_7) ?_
        refine fs_bipush (n := 12) (p := 59) (by decide +kernel) rfl kb_12 ?_
        refine fs_aload_n (k := 0) (p := 60) (by decide +kernel) rfl rfl ?_
        refine fs_gfi (idx := 148) (ci := 10) (j := 8) (p := 63) (by decide +kernel) rfl (by decide +kernel) fo_215 ?_
        refine fs_imul (p := 64) (by decide +kernel) rfl ?_
        refine fs_iload (k := 4) (p := 66) (by decide +kernel) rfl rfl ?_
        refine fs_iadd (p := 67) (by decide +kernel) rfl ?_
        refine fs_iload_n (k := 1) (p := 68) (by decide +kernel) rfl rfl ?_
        refine fs_aload_n (k := 0) (p := 69) (by decide +kernel) rfl rfl ?_
        obtain ⟨q10, w9, h⟩ := fx_bd h
        refine fs_callV (idx := 136) (mj := 137) (ci := 10) (na := 0) (mx := 1) (p := 72) (args := [.ref 215]) (rest := [.int x1, .int (((12 : Int32) * (q7.2.1 215 8)) + x4), .ref 219]) (al2 := [some (.ref 215)]) (by decide +kernel) rfl (by decide +kernel) fo_215 rfl rfl rfl rfl rfl rfl rfl (by omega) (fun d' hd' => fe_137 (by omega) w9) rfl ?_
        obtain ⟨q12, w11, h⟩ := fx_bd h
        refine fs_callS (idx := 151) (mj := 141) (na := 2) (mx := 2) (p := 75) (args := [.int x1, .int q10.1]) (rest := [.int (((12 : Int32) * (q7.2.1 215 8)) + x4), .ref 219]) (al2 := [some (.int x1), some (.int q10.1)]) (by decide +kernel) rfl (by decide +kernel) rfl rfl rfl rfl rfl rfl rfl (by omega) (fun d' hd' => fe_141 (by omega) w11) rfl ?_
        obtain ⟨t13, w14, h⟩ := fx_bd h
        refine fs_iastore (p := 76) (by decide +kernel) rfl w14 ?_
        refine fs_iinc (k := 4) (n := 1) (p := 79) (M := 6) (al' := [some (.ref 215), some (.int x1), some (.int x2), some (.int x3), some (.int (x4 + (1 : Int32))), none]) (by decide +kernel) rfl kc_1 mx_142 rfl rfl rfl ?_
        refine fs_aload_n (k := 0) (p := 80) (by decide +kernel) rfl rfl ?_
        refine fs_dup (p := 81) (by decide +kernel) rfl rfl ?_
        refine fs_gfi (idx := 114) (ci := 10) (j := 5) (p := 84) (by decide +kernel) rfl (by decide +kernel) fo_215 ?_
        refine fs_iconst (n := 1) (p := 85) (by decide +kernel) rfl kc_1 ?_
        refine fs_iadd (p := 86) (by decide +kernel) rfl ?_
        refine fs_pfi (idx := 114) (ci := 10) (j := 5) (p := 89) (by decide +kernel) rfl (by decide +kernel) (by decide +kernel) fo_215 (fx_oki _ (by decide +kernel)) ?_
        refine fs_goto (off := -53) (p := 36) (by decide +kernel) (by decide +kernel) ?_
        exact ih _ _ _ _ _ _ h
def fm_142_32 (x1 : Int32) (x2 : Int32) (s0 : Int32) (σ : fx_S) : Option (fx_S) :=
  fm_142_36 100000 x1 x2 s0 (0 : Int32) σ
theorem fe_142_32 {d : Nat} (hd : 2 ≤ d) (x1 : Int32) (x2 : Int32) (s0 : Int32) (σ : fx_S) (q : fx_S) (h : fm_142_32  x1 x2 s0 σ = some q) : fx_E none 142 d 32 [some (.ref 215), some (.int x1), some (.int x2), none, none, none] [.int s0] σ none q := by
  unfold fm_142_32 at h
  refine fs_istore_n (k := 3) (p := 33) (M := 6) (al' := [some (.ref 215), some (.int x1), some (.int x2), some (.int s0), none, none]) (by decide +kernel) rfl mx_142 rfl rfl ?_
  refine fs_iconst (n := 0) (p := 34) (by decide +kernel) rfl kc_0 ?_
  refine fs_istore (k := 4) (p := 36) (M := 6) (al' := [some (.ref 215), some (.int x1), some (.int x2), some (.int s0), some (.int (0 : Int32)), none]) (by decide +kernel) rfl mx_142 rfl rfl ?_
  exact fe_142_36 hd 100000 _ _ _ _ _ _ h
def fm_142 (x1 : Int32) (x2 : Int32) (σ : fx_S) : Option (fx_S) :=
  (fm_137 σ).bind fun q49 =>
  (fm_140 x1 q49.1 q49.2).bind fun q51 =>
  if ¬ (fx_b q51.1) = 0 then (
    if ¬ x2 = (-1 : Int32) then (
      fm_142_32 x1 x2 x2 q51.2) else (
      fm_142_32 x1 x2 (12 : Int32) q51.2)) else (
    (fm_139 (1 : Int32) (q51.2.1 215 5) q51.2).bind fun q56 =>
    some q56)
theorem fe_142 {d : Nat} (hd : 2 ≤ d) {x1 : Int32} {x2 : Int32} {σ : fx_S} {q : fx_S} (h : fm_142 x1 x2 σ = some q) : fx_E none 142 d 0 [some (.ref 215), some (.int x1), some (.int x2), none, none, none] [] σ none q := by
  unfold fm_142 at h
  refine fs_iload_n (k := 1) (p := 1) (by decide +kernel) rfl rfl ?_
  refine fs_aload_n (k := 0) (p := 2) (by decide +kernel) rfl rfl ?_
  obtain ⟨q49, w48, h⟩ := fx_bd h
  refine fs_callV (idx := 136) (mj := 137) (ci := 10) (na := 0) (mx := 1) (p := 5) (args := [.ref 215]) (rest := [.int x1]) (al2 := [some (.ref 215)]) (by decide +kernel) rfl (by decide +kernel) fo_215 rfl rfl rfl rfl rfl rfl rfl (by omega) (fun d' hd' => fe_137 (by omega) w48) rfl ?_
  obtain ⟨q51, w50, h⟩ := fx_bd h
  refine fs_callS (idx := 140) (mj := 140) (na := 2) (mx := 2) (p := 8) (args := [.int x1, .int q49.1]) (rest := []) (al2 := [some (.int x1), some (.int q49.1)]) (by decide +kernel) rfl (by decide +kernel) rfl rfl rfl rfl rfl rfl rfl (by omega) (fun d' hd' => fe_140 (by omega) w50) rfl ?_
  by_cases c52 : ¬ (fx_b q51.1) = 0
  · rw [if_pos c52] at h
    refine fs_if_ne_t (off := 13) (t := 21) (by decide +kernel) (by decide +kernel) c52 ?_
    refine fs_iload_n (k := 2) (p := 22) (by decide +kernel) rfl rfl ?_
    refine fs_iconst (n := -1) (p := 23) (by decide +kernel) rfl kc_m1 ?_
    by_cases c54 : ¬ x2 = (-1 : Int32)
    · rw [if_pos c54] at h
      refine fs_icmp_ne_t (off := 8) (t := 31) (by decide +kernel) (by decide +kernel) c54 ?_
      refine fs_iload_n (k := 2) (p := 32) (by decide +kernel) rfl rfl ?_
      exact fe_142_32 hd _ _ _ _ _ h
    · rw [if_neg c54] at h
      refine fs_icmp_ne_f (off := 8) (t := 31) (p := 26) (by decide +kernel) (by decide +kernel) rfl c54 ?_
      refine fs_bipush (n := 12) (p := 28) (by decide +kernel) rfl kb_12 ?_
      refine fs_goto (off := 4) (p := 32) (by decide +kernel) (by decide +kernel) ?_
      exact fe_142_32 hd _ _ _ _ _ h
  · rw [if_neg c52] at h
    refine fs_if_ne_f (off := 13) (t := 21) (p := 11) (by decide +kernel) (by decide +kernel) rfl c52 ?_
    refine fs_aload_n (k := 0) (p := 12) (by decide +kernel) rfl rfl ?_
    refine fs_iconst (n := 1) (p := 13) (by decide +kernel) rfl kc_1 ?_
    refine fs_aload_n (k := 0) (p := 14) (by decide +kernel) rfl rfl ?_
    refine fs_gfi (idx := 114) (ci := 10) (j := 5) (p := 17) (by decide +kernel) rfl (by decide +kernel) fo_215 ?_
    obtain ⟨q56, w55, h⟩ := fx_bd h
    refine fs_callV (idx := 144) (mj := 139) (ci := 10) (na := 2) (mx := 3) (p := 20) (args := [.ref 215, .int (1 : Int32), .int (q51.2.1 215 5)]) (rest := []) (al2 := [some (.ref 215), some (.int (1 : Int32)), some (.int (q51.2.1 215 5))]) (by decide +kernel) rfl (by decide +kernel) fo_215 rfl rfl rfl rfl rfl rfl rfl (by omega) (fun d' hd' => fe_139 (by omega) w55) rfl ?_
    have h := Option.some.inj h
    subst h
    exact fs_ret (by decide +kernel) rt_142

/-! ZoneSharesModel.readsLayer(I)V -/
theorem mx_143 : iv_mx 143 = 4 := by decide +kernel
theorem rt_143 : iv_rt 143 = none := by decide +kernel
def fm_143_112 (x1 : Int32) (x2 : Int32) (σ : fx_S) : Option (fx_S) :=
  (fm_138 σ).bind fun q2 =>
  if (fx_b q2.1) = 0 then (
    some q2.2) else (
    if x1 = 0 then (
      some q2.2) else (
      if x2 ≤ (q2.2.1 215 8) then (
        some q2.2) else (
        (fm_139 (4 : Int32) (q2.2.1 215 5) q2.2).bind fun q10 =>
        some q10)))
theorem fe_143_112 {d : Nat} (hd : 3 ≤ d) (x1 : Int32) (x2 : Int32) (o3 : Option Value) (σ : fx_S) (q : fx_S) (h : fm_143_112  x1 x2 σ = some q) : fx_E none 143 d 112 [some (.ref 215), some (.int x1), some (.int x2), o3] [] σ none q := by
  unfold fm_143_112 at h
  refine fs_aload_n (k := 0) (p := 113) (by decide +kernel) rfl rfl ?_
  obtain ⟨q2, w1, h⟩ := fx_bd h
  refine fs_callV (idx := 120) (mj := 138) (ci := 10) (na := 0) (mx := 1) (p := 116) (args := [.ref 215]) (rest := []) (al2 := [some (.ref 215)]) (by decide +kernel) rfl (by decide +kernel) fo_215 rfl rfl rfl rfl rfl rfl rfl (by omega) (fun d' hd' => fe_138 (by omega) w1) rfl ?_
  by_cases c3 : (fx_b q2.1) = 0
  · rw [if_pos c3] at h
    refine fs_if_eq_t (off := 24) (t := 140) (by decide +kernel) (by decide +kernel) c3 ?_
    have h := Option.some.inj h
    subst h
    exact fs_ret (by decide +kernel) rt_143
  · rw [if_neg c3] at h
    refine fs_if_eq_f (off := 24) (t := 140) (p := 119) (by decide +kernel) (by decide +kernel) rfl c3 ?_
    refine fs_iload_n (k := 1) (p := 120) (by decide +kernel) rfl rfl ?_
    by_cases c5 : x1 = 0
    · rw [if_pos c5] at h
      refine fs_if_eq_t (off := 20) (t := 140) (by decide +kernel) (by decide +kernel) c5 ?_
      have h := Option.some.inj h
      subst h
      exact fs_ret (by decide +kernel) rt_143
    · rw [if_neg c5] at h
      refine fs_if_eq_f (off := 20) (t := 140) (p := 123) (by decide +kernel) (by decide +kernel) rfl c5 ?_
      refine fs_aload_n (k := 0) (p := 124) (by decide +kernel) rfl rfl ?_
      refine fs_gfi (idx := 148) (ci := 10) (j := 8) (p := 127) (by decide +kernel) rfl (by decide +kernel) fo_215 ?_
      refine fs_iload_n (k := 2) (p := 128) (by decide +kernel) rfl rfl ?_
      by_cases c8 : x2 ≤ (q2.2.1 215 8)
      · rw [if_pos c8] at h
        refine fs_icmp_ge_t (off := 12) (t := 140) (by decide +kernel) (by decide +kernel) c8 ?_
        have h := Option.some.inj h
        subst h
        exact fs_ret (by decide +kernel) rt_143
      · rw [if_neg c8] at h
        refine fs_icmp_ge_f (off := 12) (t := 140) (p := 131) (by decide +kernel) (by decide +kernel) rfl c8 ?_
        refine fs_aload_n (k := 0) (p := 132) (by decide +kernel) rfl rfl ?_
        refine fs_iconst (n := 4) (p := 133) (by decide +kernel) rfl kc_4 ?_
        refine fs_aload_n (k := 0) (p := 134) (by decide +kernel) rfl rfl ?_
        refine fs_gfi (idx := 114) (ci := 10) (j := 5) (p := 137) (by decide +kernel) rfl (by decide +kernel) fo_215 ?_
        obtain ⟨q10, w9, h⟩ := fx_bd h
        refine fs_callV (idx := 144) (mj := 139) (ci := 10) (na := 2) (mx := 3) (p := 140) (args := [.ref 215, .int (4 : Int32), .int (q2.2.1 215 5)]) (rest := []) (al2 := [some (.ref 215), some (.int (4 : Int32)), some (.int (q2.2.1 215 5))]) (by decide +kernel) rfl (by decide +kernel) fo_215 rfl rfl rfl rfl rfl rfl rfl (by omega) (fun d' hd' => fe_139 (by omega) w9) rfl ?_
        have h := Option.some.inj h
        subst h
        exact fs_ret (by decide +kernel) rt_143
def fm_143_57 : Nat → Int32 → Int32 → Int32 → fx_S → Option (fx_S)
  | 0, _, _, _, _ => none
  | n + 1, x1, x2, x3, σ =>
    (fm_138 σ).bind fun q2 =>
    if (fx_b q2.1) = 0 then (
      fm_143_112 x1 x2 q2.2) else (
      (fm_137 q2.2).bind fun q5 =>
      if ¬ q5.1 = (47 : Int32) then (
        fm_143_112 x1 x2 q5.2) else (
        if ¬ (q5.2.1 215 8) = x2 then (
          (fm_142 x1 x3 (fx_w1 q5.2 215 5 ((q5.2.1 215 5) + (1 : Int32)))).bind fun q12 =>
          fm_143_57 n x1 x2 x3 q12) else (
          (fm_139 (3 : Int32) (q5.2.1 215 5) q5.2).bind fun q14 =>
          fm_143_57 n x1 x2 x3 q14)))
theorem fe_143_57 {d : Nat} (hd : 3 ≤ d) : ∀ (n : Nat) (x1 : Int32) (x2 : Int32) (x3 : Int32) (σ : fx_S) (q : fx_S), fm_143_57 n x1 x2 x3 σ = some q → fx_E none 143 d 57 [some (.ref 215), some (.int x1), some (.int x2), some (.int x3)] [] σ none q := by
  intro n
  induction n with
  | zero =>
    intro x1 x2 x3 σ q  h
    rw [fm_143_57] at h
    exact fx_no h
  | succ n ih =>
    intro x1 x2 x3 σ q  h
    rw [fm_143_57] at h
    refine fs_aload_n (k := 0) (p := 58) (by decide +kernel) rfl rfl ?_
    obtain ⟨q2, w1, h⟩ := fx_bd h
    refine fs_callV (idx := 120) (mj := 138) (ci := 10) (na := 0) (mx := 1) (p := 61) (args := [.ref 215]) (rest := []) (al2 := [some (.ref 215)]) (by decide +kernel) rfl (by decide +kernel) fo_215 rfl rfl rfl rfl rfl rfl rfl (by omega) (fun d' hd' => fe_138 (by omega) w1) rfl ?_
    by_cases c3 : (fx_b q2.1) = 0
    · rw [if_pos c3] at h
      refine fs_if_eq_t (off := 51) (t := 112) (by decide +kernel) (by decide +kernel) c3 ?_
      exact fe_143_112 hd _ _ _ _ _ h
    · rw [if_neg c3] at h
      refine fs_if_eq_f (off := 51) (t := 112) (p := 64) (by decide +kernel) (by decide +kernel) rfl c3 ?_
      refine fs_aload_n (k := 0) (p := 65) (by decide +kernel) rfl rfl ?_
      obtain ⟨q5, w4, h⟩ := fx_bd h
      refine fs_callV (idx := 136) (mj := 137) (ci := 10) (na := 0) (mx := 1) (p := 68) (args := [.ref 215]) (rest := []) (al2 := [some (.ref 215)]) (by decide +kernel) rfl (by decide +kernel) fo_215 rfl rfl rfl rfl rfl rfl rfl (by omega) (fun d' hd' => fe_137 (by omega) w4) rfl ?_
      refine fs_bipush (n := 47) (p := 70) (by decide +kernel) rfl kb_47 ?_
      by_cases c7 : ¬ q5.1 = (47 : Int32)
      · rw [if_pos c7] at h
        refine fs_icmp_ne_t (off := 42) (t := 112) (by decide +kernel) (by decide +kernel) c7 ?_
        exact fe_143_112 hd _ _ _ _ _ h
      · rw [if_neg c7] at h
        refine fs_icmp_ne_f (off := 42) (t := 112) (p := 73) (by decide +kernel) (by decide +kernel) rfl c7 ?_
        refine fs_aload_n (k := 0) (p := 74) (by decide +kernel) rfl rfl ?_
        refine fs_gfi (idx := 148) (ci := 10) (j := 8) (p := 77) (by decide +kernel) rfl (by decide +kernel) fo_215 ?_
        refine fs_iload_n (k := 2) (p := 78) (by decide +kernel) rfl rfl ?_
        by_cases c10 : ¬ (q5.2.1 215 8) = x2
        · rw [if_pos c10] at h
          refine fs_icmp_ne_t (off := 15) (t := 93) (by decide +kernel) (by decide +kernel) c10 ?_
          refine fs_aload_n (k := 0) (p := 94) (by decide +kernel) rfl rfl ?_
          refine fs_dup (p := 95) (by decide +kernel) rfl rfl ?_
          refine fs_gfi (idx := 114) (ci := 10) (j := 5) (p := 98) (by decide +kernel) rfl (by decide +kernel) fo_215 ?_
          refine fs_iconst (n := 1) (p := 99) (by decide +kernel) rfl kc_1 ?_
          refine fs_iadd (p := 100) (by decide +kernel) rfl ?_
          refine fs_pfi (idx := 114) (ci := 10) (j := 5) (p := 103) (by decide +kernel) rfl (by decide +kernel) (by decide +kernel) fo_215 (fx_oki _ (by decide +kernel)) ?_
          refine fs_aload_n (k := 0) (p := 104) (by decide +kernel) rfl rfl ?_
          refine fs_iload_n (k := 1) (p := 105) (by decide +kernel) rfl rfl ?_
          refine fs_iload_n (k := 3) (p := 106) (by decide +kernel) rfl rfl ?_
          obtain ⟨q12, w11, h⟩ := fx_bd h
          refine fs_callV (idx := 158) (mj := 142) (ci := 10) (na := 2) (mx := 6) (p := 109) (args := [.ref 215, .int x1, .int x3]) (rest := []) (al2 := [some (.ref 215), some (.int x1), some (.int x3), none, none, none]) (by decide +kernel) rfl (by decide +kernel) fo_215 rfl rfl rfl rfl rfl rfl rfl (by omega) (fun d' hd' => fe_142 (by omega) w11) rfl ?_
          refine fs_goto (off := -52) (p := 57) (by decide +kernel) (by decide +kernel) ?_
          exact ih _ _ _ _ _ h
        · rw [if_neg c10] at h
          refine fs_icmp_ne_f (off := 15) (t := 93) (p := 81) (by decide +kernel) (by decide +kernel) rfl c10 ?_
          refine fs_aload_n (k := 0) (p := 82) (by decide +kernel) rfl rfl ?_
          refine fs_iconst (n := 3) (p := 83) (by decide +kernel) rfl kc_3 ?_
          refine fs_aload_n (k := 0) (p := 84) (by decide +kernel) rfl rfl ?_
          refine fs_gfi (idx := 114) (ci := 10) (j := 5) (p := 87) (by decide +kernel) rfl (by decide +kernel) fo_215 ?_
          obtain ⟨q14, w13, h⟩ := fx_bd h
          refine fs_callV (idx := 144) (mj := 139) (ci := 10) (na := 2) (mx := 3) (p := 90) (args := [.ref 215, .int (3 : Int32), .int (q5.2.1 215 5)]) (rest := []) (al2 := [some (.ref 215), some (.int (3 : Int32)), some (.int (q5.2.1 215 5))]) (by decide +kernel) rfl (by decide +kernel) fo_215 rfl rfl rfl rfl rfl rfl rfl (by omega) (fun d' hd' => fe_139 (by omega) w13) rfl ?_
          refine fs_goto (off := -33) (p := 57) (by decide +kernel) (by decide +kernel) ?_
          exact ih _ _ _ _ _ h
def fm_143_45 (x1 : Int32) (x2 : Int32) (s0 : Int32) (σ : fx_S) : Option (fx_S) :=
  (fm_142 x1 s0 σ).bind fun q2 =>
  fm_143_57 100000 x1 x2 (q2.1 215 9) q2
theorem fe_143_45 {d : Nat} (hd : 3 ≤ d) (x1 : Int32) (x2 : Int32) (s0 : Int32) (σ : fx_S) (q : fx_S) (h : fm_143_45  x1 x2 s0 σ = some q) : fx_E none 143 d 45 [some (.ref 215), some (.int x1), some (.int x2), none] [.int s0] σ none q := by
  unfold fm_143_45 at h
  refine fs_istore_n (k := 3) (p := 46) (M := 4) (al' := [some (.ref 215), some (.int x1), some (.int x2), some (.int s0)]) (by decide +kernel) rfl mx_143 rfl rfl ?_
  refine fs_aload_n (k := 0) (p := 47) (by decide +kernel) rfl rfl ?_
  refine fs_iload_n (k := 1) (p := 48) (by decide +kernel) rfl rfl ?_
  refine fs_iload_n (k := 3) (p := 49) (by decide +kernel) rfl rfl ?_
  obtain ⟨q2, w1, h⟩ := fx_bd h
  refine fs_callV (idx := 158) (mj := 142) (ci := 10) (na := 2) (mx := 6) (p := 52) (args := [.ref 215, .int x1, .int s0]) (rest := []) (al2 := [some (.ref 215), some (.int x1), some (.int s0), none, none, none]) (by decide +kernel) rfl (by decide +kernel) fo_215 rfl rfl rfl rfl rfl rfl rfl (by omega) (fun d' hd' => fe_142 (by omega) w1) rfl ?_
  refine fs_aload_n (k := 0) (p := 53) (by decide +kernel) rfl rfl ?_
  refine fs_gfi (idx := 155) (ci := 10) (j := 9) (p := 56) (by decide +kernel) rfl (by decide +kernel) fo_215 ?_
  refine fs_istore_n (k := 3) (p := 57) (M := 4) (al' := [some (.ref 215), some (.int x1), some (.int x2), some (.int (q2.1 215 9))]) (by decide +kernel) rfl mx_143 rfl rfl ?_
  exact fe_143_57 hd 100000 _ _ _ _ _ h
def fm_143_30 (x1 : Int32) (s0 : Int32) (σ : fx_S) : Option (fx_S) :=
  if ¬ x1 = 0 then (
    (fx_ld σ 216 (1 : Int32)).bind fun v3 =>
    fm_143_45 x1 s0 v3 σ) else (
    fm_143_45 x1 s0 (-1 : Int32) σ)
theorem fe_143_30 {d : Nat} (hd : 3 ≤ d) (x1 : Int32) (s0 : Int32) (σ : fx_S) (q : fx_S) (h : fm_143_30  x1 s0 σ = some q) : fx_E none 143 d 30 [some (.ref 215), some (.int x1), none, none] [.int s0] σ none q := by
  unfold fm_143_30 at h
  refine fs_istore_n (k := 2) (p := 31) (M := 4) (al' := [some (.ref 215), some (.int x1), some (.int s0), none]) (by decide +kernel) rfl mx_143 rfl rfl ?_
  refine fs_iload_n (k := 1) (p := 32) (by decide +kernel) rfl rfl ?_
  by_cases c2 : ¬ x1 = 0
  · rw [if_pos c2] at h
    refine fs_if_ne_t (off := 7) (t := 39) (by decide +kernel) (by decide +kernel) c2 ?_
    refine fs_aload_n (k := 0) (p := 40) (by decide +kernel) rfl rfl ?_
    refine fs_gfr (idx := 9) (ci := 10) (j := 0) (p := 43) (by decide +kernel) rfl (by decide +kernel) fo_215 (fr_a215_0) ?_
    refine fs_iconst (n := 1) (p := 44) (by decide +kernel) rfl kc_1 ?_
    obtain ⟨v3, w4, h⟩ := fx_bd h
    refine fs_iaload (p := 45) (by decide +kernel) rfl w4 ?_
    exact fe_143_45 hd _ _ _ _ _ h
  · rw [if_neg c2] at h
    refine fs_if_ne_f (off := 7) (t := 39) (p := 35) (by decide +kernel) (by decide +kernel) rfl c2 ?_
    refine fs_iconst (n := -1) (p := 36) (by decide +kernel) rfl kc_m1 ?_
    refine fs_goto (off := 9) (p := 45) (by decide +kernel) (by decide +kernel) ?_
    exact fe_143_45 hd _ _ _ _ _ h
def fm_143 (x1 : Int32) (σ : fx_S) : Option (fx_S) :=
  if ¬ x1 = 0 then (
    (fx_ld (fx_w1 (fx_w1 (fx_w1 σ 215 5 (0 : Int32)) 215 6 (-1 : Int32)) 215 8 (0 : Int32)) 216 (0 : Int32)).bind fun v37 =>
    fm_143_30 x1 v37 (fx_w1 (fx_w1 (fx_w1 σ 215 5 (0 : Int32)) 215 6 (-1 : Int32)) 215 8 (0 : Int32))) else (
    fm_143_30 x1 (8 : Int32) (fx_w1 (fx_w1 (fx_w1 σ 215 5 (0 : Int32)) 215 6 (-1 : Int32)) 215 8 (0 : Int32)))
theorem fe_143 {d : Nat} (hd : 3 ≤ d) {x1 : Int32} {σ : fx_S} {q : fx_S} (h : fm_143 x1 σ = some q) : fx_E none 143 d 0 [some (.ref 215), some (.int x1), none, none] [] σ none q := by
  unfold fm_143 at h
  refine fs_aload_n (k := 0) (p := 1) (by decide +kernel) rfl rfl ?_
  refine fs_iconst (n := 0) (p := 2) (by decide +kernel) rfl kc_0 ?_
  refine fs_pfi (idx := 114) (ci := 10) (j := 5) (p := 5) (by decide +kernel) rfl (by decide +kernel) (by decide +kernel) fo_215 (fx_oki _ (by decide +kernel)) ?_
  refine fs_aload_n (k := 0) (p := 6) (by decide +kernel) rfl rfl ?_
  refine fs_iconst (n := -1) (p := 7) (by decide +kernel) rfl kc_m1 ?_
  refine fs_pfi (idx := 117) (ci := 10) (j := 6) (p := 10) (by decide +kernel) rfl (by decide +kernel) (by decide +kernel) fo_215 (fx_oki _ (by decide +kernel)) ?_
  refine fs_aload_n (k := 0) (p := 11) (by decide +kernel) rfl rfl ?_
  refine fs_iconst (n := 0) (p := 12) (by decide +kernel) rfl kc_0 ?_
  refine fs_pfi (idx := 148) (ci := 10) (j := 8) (p := 15) (by decide +kernel) rfl (by decide +kernel) (by decide +kernel) fo_215 (fx_oki _ (by decide +kernel)) ?_
  refine fs_iload_n (k := 1) (p := 16) (by decide +kernel) rfl rfl ?_
  by_cases c36 : ¬ x1 = 0
  · rw [if_pos c36] at h
    refine fs_if_ne_t (off := 8) (t := 24) (by decide +kernel) (by decide +kernel) c36 ?_
    refine fs_aload_n (k := 0) (p := 25) (by decide +kernel) rfl rfl ?_
    refine fs_gfr (idx := 9) (ci := 10) (j := 0) (p := 28) (by decide +kernel) rfl (by decide +kernel) fo_215 (fr_a215_0) ?_
    refine fs_iconst (n := 0) (p := 29) (by decide +kernel) rfl kc_0 ?_
    obtain ⟨v37, w38, h⟩ := fx_bd h
    refine fs_iaload (p := 30) (by decide +kernel) rfl w38 ?_
    exact fe_143_30 hd _ _ _ _ h
  · rw [if_neg c36] at h
    refine fs_if_ne_f (off := 8) (t := 24) (p := 19) (by decide +kernel) (by decide +kernel) rfl c36 ?_
    refine fs_bipush (n := 8) (p := 21) (by decide +kernel) rfl kb_8 ?_
    refine fs_goto (off := 9) (p := 30) (by decide +kernel) (by decide +kernel) ?_
    exact fe_143_30 hd _ _ _ _ h
end
