/-- what an instruction does to the heap: nothing, one cell set, one cell more -/
abbrev iv_F : Type := Option (Option Nat × iv_C)
abbrev iv_O : Type := Nat × iv_L × List Value × iv_F
def iv_ef (h : iv_H) (f : iv_F) : Option iv_H := match f with
  | none => some h
  | some (none, c) => some (h ++ [c])
  | some (some k, c) => if (h[k]?).map iv_cz = some (iv_cz c) then some (h.set k c) else none
def iv_jp (pc : Nat) (off : Int) (al : iv_L) (st : List Value) : Option iv_O := (iv_tg pc off).bind fun t => some (t, al, st, none)
def iv_br (b : Bool) (pc : Nat) (off : Int) (al : iv_L) (st : List Value) : Option iv_O := (iv_tg pc off).bind fun t => if b = true then some (t, al, st, none) else some (pc + 3, al, st, none)
def iv_pi (pc : Nat) (al : iv_L) (x : Int32) (r : List Value) : Option iv_O := some (pc, al, .int x :: r, none)
def iv_pj (pc : Nat) (al : iv_L) (x : Int64) (r : List Value) : Option iv_O := some (pc, al, .long x :: r, none)
def iv_ii (pc : Nat) (al : iv_L) (st : List Value) (f : Int32 → Int32 → Int32) : Option iv_O := iv_i st fun y r1 => iv_i r1 fun x r => iv_pi (pc + 1) al (f x y) r
def iv_jj (pc : Nat) (al : iv_L) (st : List Value) (f : Int64 → Int64 → Int64) : Option iv_O := iv_j st fun y r1 => iv_j r1 fun x r => iv_pj (pc + 1) al (f x y) r
def iv_c2 (pc : Nat) (off : Int) (al : iv_L) (st : List Value) (f : Int32 → Int32 → Bool) : Option iv_O := iv_i st fun y r1 => iv_i r1 fun x r => iv_br (f x y) pc off al r
def iv_c1 (pc : Nat) (off : Int) (al : iv_L) (st : List Value) (f : Int32 → Bool) : Option iv_O := iv_i st fun x r => iv_br (f x) pc off al r
theorem iv_ii_s {pc : Nat} {al : iv_L} {st : List Value} {f : Int32 → Int32 → Int32} {S : iv_O} (e : iv_ii pc al st f = some S) : ∃ x y r, st = .int y :: .int x :: r ∧ S = (pc + 1, al, .int (f x y) :: r, none) := by
  obtain ⟨y, r1, rfl, e_1⟩ := iv_i_s e
  obtain ⟨x, r, rfl, e_2⟩ := iv_i_s e_1
  cases e_2
  exact ⟨x, y, r, rfl, rfl⟩
theorem iv_jj_s {pc : Nat} {al : iv_L} {st : List Value} {f : Int64 → Int64 → Int64} {S : iv_O} (e : iv_jj pc al st f = some S) : ∃ x y r, st = .long y :: .long x :: r ∧ S = (pc + 1, al, .long (f x y) :: r, none) := by
  obtain ⟨y, r1, rfl, e_1⟩ := iv_j_s e
  obtain ⟨x, r, rfl, e_2⟩ := iv_j_s e_1
  cases e_2
  exact ⟨x, y, r, rfl, rfl⟩
theorem iv_br_s {b : Bool} {pc : Nat} {off : Int} {al : iv_L} {r : List Value} {S : iv_O} (e : iv_br b pc off al r = some S) : ∃ t : Nat, (pc : Int) + off = (t : Int) ∧ ((b = true ∧ S = (t, al, r, none)) ∨ (b = false ∧ S = (pc + 3, al, r, none))) := by
  obtain ⟨t, h1, e_1⟩ := Option.bind_eq_some_iff.mp e
  refine ⟨t, iv_tg_s h1, ?_⟩
  split at e_1
  · cases e_1
    exact Or.inl ⟨by assumption, rfl⟩
  · cases e_1
    exact Or.inr ⟨by simp_all, rfl⟩
theorem iv_c2_s {pc : Nat} {off : Int} {al : iv_L} {st : List Value} {f : Int32 → Int32 → Bool} {S : iv_O} (e : iv_c2 pc off al st f = some S) : ∃ x y r, st = .int y :: .int x :: r ∧ ∃ t : Nat, (pc : Int) + off = (t : Int) ∧ ((f x y = true ∧ S = (t, al, r, none)) ∨ (f x y = false ∧ S = (pc + 3, al, r, none))) := by
  obtain ⟨y, r1, rfl, e_1⟩ := iv_i_s e
  obtain ⟨x, r, rfl, e_2⟩ := iv_i_s e_1
  exact ⟨x, y, r, rfl, iv_br_s e_2⟩
theorem iv_c1_s {pc : Nat} {off : Int} {al : iv_L} {st : List Value} {f : Int32 → Bool} {S : iv_O} (e : iv_c1 pc off al st f = some S) : ∃ x r, st = .int x :: r ∧ ∃ t : Nat, (pc : Int) + off = (t : Int) ∧ ((f x = true ∧ S = (t, al, r, none)) ∨ (f x = false ∧ S = (pc + 3, al, r, none))) := by
  obtain ⟨x, r, rfl, e_1⟩ := iv_i_s e
  exact ⟨x, r, rfl, iv_br_s e_1⟩
theorem iv_pi_s {pc : Nat} {al : iv_L} {x : Int32} {r : List Value} {S : iv_O} (e : iv_pi pc al x r = some S) : S = (pc, al, .int x :: r, none) := (Option.some.inj e).symm
theorem iv_pj_s {pc : Nat} {al : iv_L} {x : Int64} {r : List Value} {S : iv_O} (e : iv_pj pc al x r = some S) : S = (pc, al, .long x :: r, none) := (Option.some.inj e).symm
theorem iv_jp_s {pc : Nat} {off : Int} {al : iv_L} {r : List Value} {S : iv_O} (e : iv_jp pc off al r = some S) : ∃ t : Nat, (pc : Int) + off = (t : Int) ∧ S = (t, al, r, none) := by
  obtain ⟨t, h1, e_1⟩ := Option.bind_eq_some_iff.mp e
  cases e_1
  exact ⟨t, iv_tg_s h1, rfl⟩
/-- local numbers that are stored are within the method's -/
def iv_sl (mi : Nat) (i w : Nat) (S : iv_O) : Option iv_O := if i + w < iv_mx mi then some S else none
theorem iv_sl_s {mi i w : Nat} {S S' : iv_O} (e : iv_sl mi i w S = some S') : i + w < iv_mx mi ∧ S' = S := by
  unfold iv_sl at e
  split at e
  · exact ⟨by assumption, (Option.some.inj e).symm⟩
  · cases e
def iv_sti (mi pc i : Nat) (al : iv_L) (st : List Value) : Option iv_O := iv_i st fun x r => iv_sl mi i 0 (pc, iv_s1 al i (.int x), r, none)
def iv_stj (mi pc i : Nat) (al : iv_L) (st : List Value) : Option iv_O := iv_j st fun x r => iv_sl mi i 1 (pc, iv_s2 al i (.long x), r, none)
def iv_sta (mi pc i : Nat) (al : iv_L) (st : List Value) : Option iv_O := iv_r st fun x r => iv_sl mi i 0 (pc, iv_s1 al i (.ref x), r, none)
/-- loads and stores of arrays -/
def iv_ald (ty : FieldType) (pc : Nat) (al : iv_L) (st : List Value) (h : iv_H) : Option iv_O := iv_i st fun i r1 => iv_r r1 fun k r => (iv_ai h k).bind fun q => if iv_in i q.2.1 = true ∧ iv_is q.1 ty = true then iv_pi (pc + 1) al (q.2.2 i.toNatClampNeg) r else none
def iv_ast (ty : FieldType) (pc : Nat) (al : iv_L) (st : List Value) (h : iv_H) : Option iv_O := iv_i st fun x r2 => iv_i r2 fun i r1 => iv_r r1 fun k r => (iv_ai h k).bind fun q => if iv_in i q.2.1 = true ∧ iv_is q.1 ty = true then some (pc + 1, al, r, some (some k, .inr (q.1, q.2.1, .inl (upd q.2.2 i.toNatClampNeg (vp_nar ty x))))) else none
theorem iv_in_s {i : Int32} {n : Nat} (h : iv_in i n = true) : vp_in i n := by
  unfold iv_in at h
  simp only [Bool.and_eq_true, decide_eq_true_eq] at h
  intro q
  rcases q with q | q
  · exact absurd h.1 (Int32.not_le.mpr q)
  · omega
theorem iv_is_s {t : Nat} {ty : FieldType} (h : iv_is t ty = true) : iv_ty[t]? = some ty := of_decide_eq_true h
theorem iv_ai_s {h : iv_H} {k : Nat} {q : Nat × Nat × (Nat → Int32)} (e : iv_ai h k = some q) : h[k]? = some (.inr (q.1, q.2.1, .inl q.2.2)) := by
  unfold iv_ai at e
  split at e
  · cases e; assumption
  · cases e
theorem iv_aj_s {h : iv_H} {k : Nat} {q : Nat × Nat × (Nat → Int64)} (e : iv_aj h k = some q) : h[k]? = some (.inr (q.1, q.2.1, .inr (.inl q.2.2))) := by
  unfold iv_aj at e
  split at e
  · cases e; assumption
  · cases e
theorem iv_aq_s {h : iv_H} {k : Nat} {q : Nat × Nat × (Nat → Option Nat)} (e : iv_aq h k = some q) : h[k]? = some (.inr (q.1, q.2.1, .inr (.inr (.inr (.inr q.2.2))))) := by
  unfold iv_aq at e
  split at e
  · cases e; assumption
  · cases e
theorem iv_ald_s {ty : FieldType} {pc : Nat} {al : iv_L} {st : List Value} {h : iv_H} {S : iv_O} (e : iv_ald ty pc al st h = some S) : ∃ i k r t n f, st = .int i :: .ref k :: r ∧ h[k]? = some (.inr (t, n, .inl f)) ∧ vp_in i n ∧ iv_ty[t]? = some ty ∧ S = (pc + 1, al, .int (f i.toNatClampNeg) :: r, none) := by
  obtain ⟨i, r1, rfl, e_1⟩ := iv_i_s e
  obtain ⟨k, r, rfl, e_2⟩ := iv_r_s e_1
  obtain ⟨q, e1, e_3⟩ := Option.bind_eq_some_iff.mp e_2
  split at e_3
  · rename_i hc
    exact ⟨i, k, r, q.1, q.2.1, q.2.2, rfl, iv_ai_s e1, iv_in_s hc.1, iv_is_s hc.2, iv_pi_s e_3⟩
  · cases e_3
theorem iv_ast_s {ty : FieldType} {pc : Nat} {al : iv_L} {st : List Value} {h : iv_H} {S : iv_O} (e : iv_ast ty pc al st h = some S) : ∃ x i k r t n f, st = .int x :: .int i :: .ref k :: r ∧ h[k]? = some (.inr (t, n, .inl f)) ∧ vp_in i n ∧ iv_ty[t]? = some ty ∧ S = (pc + 1, al, r, some (some k, .inr (t, n, .inl (upd f i.toNatClampNeg (vp_nar ty x))))) := by
  obtain ⟨x, r2, rfl, e_1⟩ := iv_i_s e
  obtain ⟨i, r1, rfl, e_2⟩ := iv_i_s e_1
  obtain ⟨k, r, rfl, e_3⟩ := iv_r_s e_2
  obtain ⟨q, e1, e_4⟩ := Option.bind_eq_some_iff.mp e_3
  split at e_4
  · rename_i hc
    exact ⟨x, i, k, r, q.1, q.2.1, q.2.2, rfl, iv_ai_s e1, iv_in_s hc.1, iv_is_s hc.2, (Option.some.inj e_4).symm⟩
  · cases e_4
theorem iv_gf_s {mi idx k : Nat} {h : iv_H} {v : Value} (e : iv_gf mi idx h k = some v) : ∃ ci j fs, iv_fd (iv_kf mi) idx = some (ci, j) ∧ h[k]? = some (.inl (ci, fs)) ∧ fs[j]? = some v := by
  unfold iv_gf at e
  split at e
  · rename_i q hq
    split at e
    · rename_i o ho
      split at e
      · rename_i hc
        obtain ⟨ci, j⟩ := q
        obtain ⟨c1, fs⟩ := o
        dsimp only at hc e
        subst hc
        exact ⟨c1, j, fs, hq, ho, e⟩
      · cases e
    · cases e
  · cases e
theorem iv_pf_s {mi idx k : Nat} {h : iv_H} {v : Value} {f : Option Nat × iv_C} (e : iv_pf mi idx h k v = some f) : ∃ ci j fs, iv_fd (iv_kf mi) idx = some (ci, j) ∧ h[k]? = some (.inl (ci, fs)) ∧ j < fs.length ∧ iv_ok (iv_ft ci j) v = true ∧ (iv_fi ci j = false ∨ (iv_ini mi = true ∧ iv_ow ci = iv_kf mi ∧ iv_fn (iv_kf mi) idx = none)) ∧ f = (some k, .inl (ci, fs.set j v)) := by
  unfold iv_pf at e
  split at e
  · rename_i q hq
    split at e
    · rename_i o ho
      split at e
      · rename_i hc
        obtain ⟨ci, j⟩ := q
        obtain ⟨c1, fs⟩ := o
        dsimp only at hc e
        obtain ⟨h1, h2, h3, h4⟩ := hc
        subst h1
        exact ⟨c1, j, fs, hq, ho, h2, h3, h4, (Option.some.inj e).symm⟩
      · cases e
    · cases e
  · cases e
def iv_1or2 {α : Type} (st : List Value) (f : Value → List Value → Option α) : Option α := match st with
  | x :: r => f x r
  | _ => none
theorem iv_1or2_s {α : Type} {st : List Value} {f : Value → List Value → Option α} {a : α} (h : iv_1or2 st f = some a) : ∃ x r, st = x :: r ∧ f x r = some a := by
  unfold iv_1or2 at h
  split at h
  · exact ⟨_, _, rfl, h⟩
  · cases h
/-- an array of objects; its objects' class -/
def iv_iq (t : Nat) : Bool := match iv_ty[t]? with
  | some (.object _) => true
  | some (.array _) => true
  | _ => false
def iv_qc (h : iv_H) (t b : Nat) : Bool := match h[b]? with
  | some (.inl o) => match iv_cl[o.1]? with
    | some r => iv_is t (.object r.1)
    | none => false
  | _ => false
/-- Math.min of two ints -/
def iv_min (pc : Nat) (al : iv_L) (st : List Value) : Option iv_O := iv_i st fun y r1 => iv_i r1 fun x r => if (r.map fun v => v.category).sum ≤ 8 then iv_pi (pc + 3) al (if y < x then y else x) r else none
/-- Math.max of two ints -/
def iv_max (pc : Nat) (al : iv_L) (st : List Value) : Option iv_O := iv_i st fun y r1 => iv_i r1 fun x r => if (r.map fun v => v.category).sum ≤ 8 then iv_pi (pc + 3) al (if x < y then y else x) r else none
/-- System.arraycopy of ints, of bytes; from an array of ours or a read-only one -/
def iv_ck8 (r : List Value) : Bool := decide ((r.map fun v => v.category).sum ≤ 8)
def iv_cpR (q u : Nat × Nat × (Nat → Int32)) (sp dp n : Int32) (r : List Value) : Bool := decide (0 ≤ sp) && (decide (0 ≤ dp) && (decide (0 ≤ n) && (decide (sp.toNatClampNeg + n.toNatClampNeg ≤ q.2.1) && (decide (dp.toNatClampNeg + n.toNatClampNeg ≤ u.2.1) && iv_ck8 r))))
def iv_cpy (z : iv_Z) (pc : Nat) (al : iv_L) (st : List Value) (h : iv_H) : Option iv_O := iv_i st fun n r4 => iv_i r4 fun dp r3 => iv_r r3 fun b r2 => iv_i r2 fun sp r1 => match r1 with
  | .ref a :: r => (iv_ai h a).bind fun q => (iv_ai h b).bind fun u => if iv_cpR q u sp dp n r = true ∧ ((iv_is q.1 .int = true ∧ iv_is u.1 .int = true) ∨ (iv_is q.1 .byte = true ∧ iv_is u.1 .byte = true)) then
    some (pc + 3, al, r, some (some b, .inr (u.1, u.2.1, .inl (va_cpy q.2.2 u.2.2 sp.toNatClampNeg dp.toNatClampNeg n.toNatClampNeg)))) else none
  | .retAddr a :: r => (iv_zi z a).bind fun q => (iv_ai h b).bind fun u => if iv_cpR q u sp dp n r = true ∧ iv_is q.1 .byte = true ∧ iv_is u.1 .byte = true then
    some (pc + 3, al, r, some (some b, .inr (u.1, u.2.1, .inl (va_cpy q.2.2 u.2.2 sp.toNatClampNeg dp.toNatClampNeg n.toNatClampNeg)))) else none
  | _ => none
theorem iv_cpR_s {q u : Nat × Nat × (Nat → Int32)} {sp dp n : Int32} {r : List Value} (h : iv_cpR q u sp dp n r = true) : ¬ sp < 0 ∧ ¬ dp < 0 ∧ ¬ n < 0 ∧ sp.toNatClampNeg + n.toNatClampNeg ≤ q.2.1 ∧ dp.toNatClampNeg + n.toNatClampNeg ≤ u.2.1 ∧ (r.map fun v => v.category).sum ≤ 8 := by
  simp only [iv_cpR, iv_ck8, Bool.and_eq_true, decide_eq_true_eq] at h
  exact ⟨Int32.not_lt.mpr h.1, Int32.not_lt.mpr h.2.1, Int32.not_lt.mpr h.2.2.1, h.2.2.2.1, h.2.2.2.2.1, h.2.2.2.2.2⟩
/-! doubles and floats that are no NaN -/
def id_d {α : Type} (st : List Value) (f : UInt64 → List Value → Option α) : Option α := match st with
  | .double x :: r => f x r
  | _ => none
def id_f {α : Type} (st : List Value) (f : UInt32 → List Value → Option α) : Option α := match st with
  | .float x :: r => f x r
  | _ => none
theorem id_d_s {α : Type} {st : List Value} {f : UInt64 → List Value → Option α} {a : α} (h : id_d st f = some a) : ∃ x r, st = .double x :: r ∧ f x r = some a := by
  unfold id_d at h
  split at h
  · exact ⟨_, _, rfl, h⟩
  · cases h
theorem id_f_s {α : Type} {st : List Value} {f : UInt32 → List Value → Option α} {a : α} (h : id_f st f = some a) : ∃ x r, st = .float x :: r ∧ f x r = some a := by
  unfold id_f at h
  split at h
  · exact ⟨_, _, rfl, h⟩
  · cases h
def id_ld {α : Type} (al : iv_L) (i : Nat) (f : UInt64 → Option α) : Option α := match al[i]? with
  | some (some (.double x)) => f x
  | _ => none
def id_lf {α : Type} (al : iv_L) (i : Nat) (f : UInt32 → Option α) : Option α := match al[i]? with
  | some (some (.float x)) => f x
  | _ => none
theorem id_ld_s {α : Type} {al : iv_L} {i : Nat} {f : UInt64 → Option α} {a : α} (h : id_ld al i f = some a) : ∃ x, al[i]? = some (some (.double x)) ∧ f x = some a := by
  unfold id_ld at h
  split at h
  · exact ⟨_, by assumption, h⟩
  · cases h
theorem id_lf_s {α : Type} {al : iv_L} {i : Nat} {f : UInt32 → Option α} {a : α} (h : id_lf al i f = some a) : ∃ x, al[i]? = some (some (.float x)) ∧ f x = some a := by
  unfold id_lf at h
  split at h
  · exact ⟨_, by assumption, h⟩
  · cases h
def id_pd (pc : Nat) (al : iv_L) (x : UInt64) (r : List Value) : Option iv_O := some (pc, al, .double x :: r, none)
def id_pf (pc : Nat) (al : iv_L) (x : UInt32) (r : List Value) : Option iv_O := some (pc, al, .float x :: r, none)
theorem id_pd_s {pc : Nat} {al : iv_L} {x : UInt64} {r : List Value} {S : iv_O} (e : id_pd pc al x r = some S) : S = (pc, al, .double x :: r, none) := (Option.some.inj e).symm
theorem id_pf_s {pc : Nat} {al : iv_L} {x : UInt32} {r : List Value} {S : iv_O} (e : id_pf pc al x r = some S) : S = (pc, al, .float x :: r, none) := (Option.some.inj e).symm
def id_n6 (x : UInt64) : Bool := decide (x &&& 0x7fffffffffffffff ≤ 0x7ff0000000000000)
def id_n3 (x : UInt32) : Bool := decide (x &&& 0x7fffffff ≤ 0x7f800000)
theorem id_n6_s {x : UInt64} (h : id_n6 x = true) : x &&& 0x7fffffffffffffff ≤ 0x7ff0000000000000 := of_decide_eq_true h
theorem id_n3_s {x : UInt32} (h : id_n3 x = true) : x &&& 0x7fffffff ≤ 0x7f800000 := of_decide_eq_true h
/-- pushes a double, a float that must be no NaN -/
def id_gd (pc : Nat) (al : iv_L) (x : UInt64) (r : List Value) : Option iv_O := if id_n6 x = true then id_pd pc al x r else none
def id_gf (pc : Nat) (al : iv_L) (x : UInt32) (r : List Value) : Option iv_O := if id_n3 x = true then id_pf pc al x r else none
theorem id_gd_s {pc : Nat} {al : iv_L} {x : UInt64} {r : List Value} {S : iv_O} (e : id_gd pc al x r = some S) : vf_n64 x ∧ S = (pc, al, .double x :: r, none) := by
  unfold id_gd at e
  split at e
  · exact ⟨id_n6_s (by assumption), id_pd_s e⟩
  · cases e
theorem id_gf_s {pc : Nat} {al : iv_L} {x : UInt32} {r : List Value} {S : iv_O} (e : id_gf pc al x r = some S) : vf_n32 x ∧ S = (pc, al, .float x :: r, none) := by
  unfold id_gf at e
  split at e
  · exact ⟨id_n3_s (by assumption), id_pf_s e⟩
  · cases e
def id_dd (pc : Nat) (al : iv_L) (st : List Value) (f : UInt64 → UInt64 → UInt64) : Option iv_O := id_d st fun y r1 => id_d r1 fun x r => id_gd (pc + 1) al (f x y) r
theorem id_dd_s {pc : Nat} {al : iv_L} {st : List Value} {f : UInt64 → UInt64 → UInt64} {S : iv_O} (e : id_dd pc al st f = some S) : ∃ x y r, st = .double y :: .double x :: r ∧ vf_n64 (f x y) ∧ S = (pc + 1, al, .double (f x y) :: r, none) := by
  obtain ⟨y, r1, rfl, e_1⟩ := id_d_s e
  obtain ⟨x, r, rfl, e_2⟩ := id_d_s e_1
  obtain ⟨h1, h2⟩ := id_gd_s e_2
  exact ⟨x, y, r, rfl, h1, h2⟩
def id_st (mi pc i : Nat) (al : iv_L) (st : List Value) : Option iv_O := id_d st fun x r => iv_sl mi i 1 (pc, iv_s2 al i (.double x), r, none)
/-- constants of two slots: longs, then doubles -/
def id_l2 (mi pc idx : Nat) (al : iv_L) (st : List Value) : Option iv_O := match iv_l2 (iv_kf mi) idx with
  | some x => iv_pj pc al x st
  | none => (id_lc (iv_kf mi) idx).bind fun x => id_pd pc al x st
theorem id_l2_s {mi pc idx : Nat} {al : iv_L} {st : List Value} {S : iv_O} (e : id_l2 mi pc idx al st = some S) : (∃ x, iv_l2 (iv_kf mi) idx = some x ∧ S = (pc, al, .long x :: st, none)) ∨ ∃ x, id_lc (iv_kf mi) idx = some x ∧ S = (pc, al, .double x :: st, none) := by
  unfold id_l2 at e
  split at e
  · exact Or.inl ⟨_, by assumption, iv_pj_s e⟩
  · obtain ⟨x, e1, e_1⟩ := Option.bind_eq_some_iff.mp e
    exact Or.inr ⟨x, e1, id_pd_s e_1⟩
/-- the JDK's methods over doubles and floats: 1 the bits of a double, 2 of a float, 3 abs, 4 floor -/
def id_c8 (r : List Value) : Bool := decide ((r.map fun v => v.category).sum ≤ 8)
def id_cl (k pc : Nat) (al : iv_L) (st : List Value) : Option iv_O := match k with
  | 1 => id_d st fun x r => if (id_n6 x && id_c8 r) = true then iv_pj (pc + 3) al x.toInt64 r else none
  | 2 => id_f st fun x r => if (id_n3 x && id_c8 r) = true then iv_pi (pc + 3) al x.toInt32 r else none
  | _ => none
def id_jc (mi pc idx : Nat) (al : iv_L) (st : List Value) : Option iv_O := (id_dj (iv_kf mi) idx).bind fun k => id_cl k pc al st
theorem id_ng {c : Bool} {r : List Value} (h : (c && id_c8 r) = true) : c = true ∧ (r.map fun v => v.category).sum ≤ 8 := by
  simp only [Bool.and_eq_true] at h
  exact ⟨h.1, of_decide_eq_true h.2⟩
theorem id_jc_s {mi pc idx : Nat} {al : iv_L} {st : List Value} {o : iv_O} (e : id_jc mi pc idx al st = some o) : ∃ r, (r.map fun v => v.category).sum ≤ 8 ∧
    ((id_dj (iv_kf mi) idx = some 1 ∧ ∃ x, vf_n64 x ∧ st = .double x :: r ∧ o = (pc + 3, al, .long x.toInt64 :: r, none)) ∨
     (id_dj (iv_kf mi) idx = some 2 ∧ ∃ x, vf_n32 x ∧ st = .float x :: r ∧ o = (pc + 3, al, .int x.toInt32 :: r, none))) := by
  obtain ⟨k, e1, e_1⟩ := Option.bind_eq_some_iff.mp e
  unfold id_cl at e_1
  split at e_1
  · obtain ⟨x, r, rfl, e_2⟩ := id_d_s e_1
    split at e_2
    · rename_i hc
      obtain ⟨h1, h2⟩ := id_ng hc
      exact ⟨r, h2, Or.inl ⟨e1, x, id_n6_s h1, rfl, iv_pj_s e_2⟩⟩
    · cases e_2
  · obtain ⟨x, r, rfl, e_2⟩ := id_f_s e_1
    split at e_2
    · rename_i hc
      obtain ⟨h1, h2⟩ := id_ng hc
      exact ⟨r, h2, Or.inr ⟨e1, x, id_n3_s h1, rfl, iv_pi_s e_2⟩⟩
    · cases e_2
  · cases e_1
def iv_dup2 (pc : Nat) (al : iv_L) (st : List Value) : Option iv_O := match st with
  | x :: r => if x.category = 2 then some (pc + 1, al, x :: x :: r, none) else iv_1 (x :: r) fun v r1 => iv_1 r1 fun w r => some (pc + 1, al, v :: w :: v :: w :: r, none)
  | [] => none
theorem iv_dup2_s {pc : Nat} {al : iv_L} {st : List Value} {o : iv_O} (e : iv_dup2 pc al st = some o) : (∃ v r, st = v :: r ∧ v.category = 2 ∧ o = (pc + 1, al, v :: v :: r, none)) ∨ ∃ v u r, st = v :: u :: r ∧ v.category = 1 ∧ u.category = 1 ∧ o = (pc + 1, al, v :: u :: v :: u :: r, none) := by
  unfold iv_dup2 at e
  split at e
  · split at e
    · rename_i h
      exact Or.inl ⟨_, _, rfl, h, (Option.some.inj e).symm⟩
    · obtain ⟨v, r1, e1, hv, e2⟩ := iv_1_s e
      obtain ⟨u, r, rfl, hu, e3⟩ := iv_1_s e2
      exact Or.inr ⟨v, u, r, e1, hv, hu, (Option.some.inj e3).symm⟩
  · cases e
def iv_sem (op : Jvm.ClassFile.Instr) : Option (iv_Z → Nat → Nat → iv_L → List Value → iv_H → Option iv_O) := match op with
  | .iconst n => some fun z mi pc al st h => iv_pi (pc + 1) al (Int32.ofInt n) st
  | .bipush n => some fun z mi pc al st h => iv_pi (pc + 2) al (Int8.ofInt n).toInt32 st
  | .sipush n => some fun z mi pc al st h => iv_pi (pc + 3) al (Int16.ofInt n).toInt32 st
  | .lconst n => some fun z mi pc al st h => iv_pj (pc + 1) al (Int64.ofNat (n : Nat)) st
  | .ldc idx => some fun z mi pc al st h => match iv_lc (iv_kf mi) idx with
    | some x => iv_pi (pc + 2) al x st
    | none => (iv_ls (iv_kf mi) idx).bind fun k => if (z k).isSome = true then some (pc + 2, al, .retAddr k :: st, none) else none
  | .aconst_null => some fun z mi pc al st h => some (pc + 1, al, .null :: st, none)
  | .ifnull off => some fun z mi pc al st h => match st with
    | .ref _ :: r => some (pc + 3, al, r, none)
    | .retAddr k :: r => if (z k).isSome = true then some (pc + 3, al, r, none) else none
    | .null :: r => iv_jp pc off al r
    | _ => none
  | .ifnonnull off => some fun z mi pc al st h => match st with
    | .ref _ :: r => iv_jp pc off al r
    | .retAddr k :: r => if (z k).isSome = true then iv_jp pc off al r else none
    | .null :: r => some (pc + 3, al, r, none)
    | _ => none
  | .if_acmp .eq off => some fun z mi pc al st h => iv_r st fun b r1 => iv_r r1 fun a r => iv_br (decide (a = b)) pc off al r
  | .if_acmp .ne off => some fun z mi pc al st h => iv_r st fun b r1 => iv_r r1 fun a r => iv_br (decide (¬ a = b)) pc off al r
  | .getstatic idx => some fun z mi pc al st h => (iv_ss (iv_kf mi) idx).bind fun k => match k with
    | 0 => iv_pi (pc + 3) al 1 st
    | 1 => some (pc + 3, al, .retAddr 1 :: st, none)
    | 2 => some (pc + 3, al, .retAddr 2 :: st, none)
    | 3 => some (pc + 3, al, .retAddr 100 :: st, none)
    | _ => none
  | .checkcast idx => some fun z mi pc al st h => iv_r st fun k r => match iv_ka (iv_kf mi) idx with
    | some t => if iv_ao_ h k t = true then some (pc + 3, al, .ref k :: r, none) else none
    | none => (iv_nc (iv_kf mi) idx).bind fun ci => if iv_oc h k ci = true then some (pc + 3, al, .ref k :: r, none) else none
  | .instanceof idx => some fun z mi pc al st h => iv_r st fun k r => (iv_nc (iv_kf mi) idx).bind fun ci => if iv_oc h k ci = true then iv_pi (pc + 3) al 1 r else none
  | .invokevirtual idx => some fun z mi pc al st h => (iv_cv (iv_kf mi) idx).bind fun t => iv_r st fun k r => (iv_ai h k).bind fun q => if q.1 = t ∧ q.2.1 ≤ 60000000 ∧ (r.map fun v => v.category).sum ≤ 8 then some (pc + 3, al, .ref h.length :: r, some (none, .inr (q.1, q.2.1, .inl q.2.2))) else none
  | .i2c => some fun z mi pc al st h => iv_i st fun x r => iv_pi (pc + 1) al (x.toUInt32 % 65536).toInt32 r
  | .ldc_w idx => some fun z mi pc al st h => (iv_lc (iv_kf mi) idx).bind fun x => iv_pi (pc + 3) al x st
  | .ldc2_w idx => some fun z mi pc al st h => id_l2 mi (pc + 3) idx al st
  | .iload_n k => some fun z mi pc al st h => iv_li al (k : Nat) fun x => iv_pi (pc + 1) al x st
  | .iload i => some fun z mi pc al st h => iv_li al i fun x => iv_pi (pc + 2) al x st
  | .lload_n k => some fun z mi pc al st h => iv_lj al (k : Nat) fun x => iv_pj (pc + 1) al x st
  | .lload i => some fun z mi pc al st h => iv_lj al i fun x => iv_pj (pc + 2) al x st
  | .aload_n k => some fun z mi pc al st h => iv_la al (k : Nat) fun x => some (pc + 1, al, x :: st, none)
  | .aload i => some fun z mi pc al st h => iv_la al i fun x => some (pc + 2, al, x :: st, none)
  | .istore_n k => some fun z mi pc al st h => iv_sti mi (pc + 1) (k : Nat) al st
  | .istore i => some fun z mi pc al st h => iv_sti mi (pc + 2) i al st
  | .lstore_n k => some fun z mi pc al st h => iv_stj mi (pc + 1) (k : Nat) al st
  | .lstore i => some fun z mi pc al st h => iv_stj mi (pc + 2) i al st
  | .astore_n k => some fun z mi pc al st h => iv_sta mi (pc + 1) (k : Nat) al st
  | .astore i => some fun z mi pc al st h => iv_sta mi (pc + 2) i al st
  | .iinc i n => some fun z mi pc al st h => iv_li al i fun x => iv_sl mi i 0 (pc + 3, iv_s1 al i (.int (x + Int32.ofInt n)), st, none)
  | .iadd => some fun z mi pc al st h => iv_ii pc al st (fun x y => x + y)
  | .isub => some fun z mi pc al st h => iv_ii pc al st (fun x y => x - y)
  | .imul => some fun z mi pc al st h => iv_ii pc al st (fun x y => x * y)
  | .iand => some fun z mi pc al st h => iv_ii pc al st (fun x y => x &&& y)
  | .ior => some fun z mi pc al st h => iv_ii pc al st (fun x y => x ||| y)
  | .ixor => some fun z mi pc al st h => iv_ii pc al st (fun x y => x ^^^ y)
  | .ishl => some fun z mi pc al st h => iv_ii pc al st (fun x y => x <<< (y &&& 31))
  | .ishr => some fun z mi pc al st h => iv_ii pc al st (fun x y => x >>> (y &&& 31))
  | .iushr => some fun z mi pc al st h => iv_ii pc al st (fun x y => (x.toUInt32 >>> (y.toUInt32 &&& Int32.toUInt32 31)).toInt32)
  | .idiv => some fun z mi pc al st h => iv_i st fun y r1 => iv_i r1 fun x r => if y = 0 then none else iv_pi (pc + 1) al (x / y) r
  | .irem => some fun z mi pc al st h => iv_i st fun y r1 => iv_i r1 fun x r => if y = 0 then none else iv_pi (pc + 1) al (x - x / y * y) r
  | .ineg => some fun z mi pc al st h => iv_i st fun x r => iv_pi (pc + 1) al (-x) r
  | .ladd => some fun z mi pc al st h => iv_jj pc al st (fun x y => x + y)
  | .lsub => some fun z mi pc al st h => iv_jj pc al st (fun x y => x - y)
  | .lmul => some fun z mi pc al st h => iv_jj pc al st (fun x y => x * y)
  | .land => some fun z mi pc al st h => iv_jj pc al st (fun x y => x &&& y)
  | .lor => some fun z mi pc al st h => iv_jj pc al st (fun x y => x ||| y)
  | .lxor => some fun z mi pc al st h => iv_jj pc al st (fun x y => x ^^^ y)
  | .lshl => some fun z mi pc al st h => iv_i st fun y r1 => iv_j r1 fun x r => iv_pj (pc + 1) al (x <<< (y.toInt64 &&& 63)) r
  | .lshr => some fun z mi pc al st h => iv_i st fun y r1 => iv_j r1 fun x r => iv_pj (pc + 1) al (x >>> (y.toInt64 &&& 63)) r
  | .pop2 => some fun z mi pc al st h => iv_2 st fun _ r => some (pc + 1, al, r, none)
  | .ldiv => some fun z mi pc al st h => iv_j st fun y r1 => iv_j r1 fun x r => if y = 0 then none else iv_pj (pc + 1) al (x / y) r
  | .lrem => some fun z mi pc al st h => iv_j st fun y r1 => iv_j r1 fun x r => if y = 0 then none else iv_pj (pc + 1) al (x - x / y * y) r
  | .lneg => some fun z mi pc al st h => iv_j st fun x r => iv_pj (pc + 1) al (-x) r
  | .lcmp => some fun z mi pc al st h => iv_j st fun y r1 => iv_j r1 fun x r => iv_pi (pc + 1) al (lg_cmp x y) r
  | .i2l => some fun z mi pc al st h => iv_i st fun x r => iv_pj (pc + 1) al x.toInt64 r
  | .l2i => some fun z mi pc al st h => iv_j st fun x r => iv_pi (pc + 1) al x.toInt32 r
  | .i2b => some fun z mi pc al st h => iv_i st fun x r => iv_pi (pc + 1) al x.toInt8.toInt32 r
  | .dup => some fun z mi pc al st h => iv_1 st fun v r => some (pc + 1, al, v :: v :: r, none)
  | .pop => some fun z mi pc al st h => iv_1 st fun _ r => some (pc + 1, al, r, none)
  | .dup_x1 => some fun z mi pc al st h => iv_1 st fun v r1 => iv_1 r1 fun w r => some (pc + 1, al, v :: w :: v :: r, none)
  | .dup_x2 => some fun z mi pc al st h => iv_1 st fun v r1 => iv_1 r1 fun w r2 => iv_1 r2 fun x r => some (pc + 1, al, v :: w :: x :: v :: r, none)
  | .dup2 => some fun z mi pc al st h => iv_dup2 pc al st
  | .goto off => some fun z mi pc al st h => iv_jp pc off al st
  | .ifCond .eq off => some fun z mi pc al st h => iv_c1 pc off al st (fun x => decide (x = 0))
  | .ifCond .ne off => some fun z mi pc al st h => iv_c1 pc off al st (fun x => decide (¬ x = 0))
  | .ifCond .lt off => some fun z mi pc al st h => iv_c1 pc off al st (fun x => decide (x < 0))
  | .ifCond .ge off => some fun z mi pc al st h => iv_c1 pc off al st (fun x => decide (0 ≤ x))
  | .ifCond .gt off => some fun z mi pc al st h => iv_c1 pc off al st (fun x => decide (0 < x))
  | .ifCond .le off => some fun z mi pc al st h => iv_c1 pc off al st (fun x => decide (x ≤ 0))
  | .if_icmp .eq off => some fun z mi pc al st h => iv_c2 pc off al st (fun x y => decide (x = y))
  | .if_icmp .ne off => some fun z mi pc al st h => iv_c2 pc off al st (fun x y => decide (¬ x = y))
  | .if_icmp .lt off => some fun z mi pc al st h => iv_c2 pc off al st (fun x y => decide (x < y))
  | .if_icmp .ge off => some fun z mi pc al st h => iv_c2 pc off al st (fun x y => decide (y ≤ x))
  | .if_icmp .gt off => some fun z mi pc al st h => iv_c2 pc off al st (fun x y => decide (y < x))
  | .if_icmp .le off => some fun z mi pc al st h => iv_c2 pc off al st (fun x y => decide (x ≤ y))
  | .tableswitch dflt lo hi offs => some fun z mi pc al st h => iv_i st fun x r => if x.toInt < lo ∨ hi < x.toInt then iv_jp pc dflt al r else (offs[(x.toInt - lo).toNat]?).bind fun off => iv_jp pc off al r
  | .lookupswitch dflt ps => some fun z mi pc al st h => iv_i st fun x r => if (ps.toList.zip (ps.toList.drop 1)).all (fun (a, next) => a.1 < next.1) = true then iv_jp pc (Op.lookupswitch.offset ps.toList dflt x.toInt) al r else none
  | .getfield idx => some fun z mi pc al st h => match st with
    | .retAddr k :: r => (iv_zf z mi idx k).bind fun v => some (pc + 3, al, v :: r, none)
    | st => iv_r st fun k r => (iv_gf mi idx h k).bind fun v => some (pc + 3, al, v :: r, none)
  | .putfield idx => some fun z mi pc al st h => iv_1or2 st fun v r1 => iv_r r1 fun k r => (iv_pf mi idx h k v).bind fun q => some (pc + 3, al, r, some q)
  | .new idx => some fun z mi pc al st h => (iv_nc (iv_kf mi) idx).bind fun ci => some (pc + 3, al, .ref h.length :: st, some (none, .inl (ci, iv_df ci)))
  | .newarray a => some fun z mi pc al st h => iv_i st fun n r => if 0 ≤ n ∧ n.toNatClampNeg ≤ 60000000 ∧ iv_tn a < 4 then some (pc + 2, al, .ref h.length :: r, some (none, .inr (iv_tn a, iv_a0 (iv_tn a) n.toNatClampNeg))) else none
  | .anewarray idx => some fun z mi pc al st h => iv_i st fun n r => (iv_ac (iv_kf mi) idx).bind fun t => if 0 ≤ n ∧ n.toNatClampNeg ≤ 60000000 then some (pc + 3, al, .ref h.length :: r, some (none, .inr (t, n.toNatClampNeg, .inr (.inr (.inr (.inr (fun _ => none))))))) else none
  | .arraylength => some fun z mi pc al st h => match st with
    | .ref k :: r => match h[k]? with
      | some (.inr a) => if (iv_ty[a.1]?).isSome = true then iv_pi (pc + 1) al (Int32.ofNat a.2.1) r else none
      | _ => none
    | .retAddr k :: r => (iv_zi z k).bind fun q => iv_pi (pc + 1) al (Int32.ofNat q.2.1) r
    | _ => none
  | .iaload => some fun z mi pc al st h => match st with
    | .int i :: .retAddr k :: r => (iv_zi z k).bind fun q => if iv_in i q.2.1 = true ∧ iv_is q.1 .int = true then iv_pi (pc + 1) al (q.2.2 i.toNatClampNeg) r else none
    | st => iv_ald .int pc al st h
  | .baload => some fun z mi pc al st h => match st with
    | .int i :: .retAddr k :: r => (iv_zi z k).bind fun q => if iv_in i q.2.1 = true ∧ iv_is q.1 .byte = true then iv_pi (pc + 1) al (q.2.2 i.toNatClampNeg) r else none
    | st => match iv_ald .byte pc al st h with
      | some S => some S
      | none => iv_ald .boolean pc al st h
  | .iastore => some fun z mi pc al st h => iv_ast .int pc al st h
  | .bastore => some fun z mi pc al st h => match iv_ast .byte pc al st h with
    | some S => some S
    | none => iv_ast .boolean pc al st h
  | .laload => some fun z mi pc al st h => iv_i st fun i r1 => iv_r r1 fun k r => (iv_aj h k).bind fun q => if iv_in i q.2.1 = true ∧ iv_is q.1 .long = true then iv_pj (pc + 1) al (q.2.2 i.toNatClampNeg) r else none
  | .lastore => some fun z mi pc al st h => iv_j st fun x r2 => iv_i r2 fun i r1 => iv_r r1 fun k r => (iv_aj h k).bind fun q => if iv_in i q.2.1 = true ∧ iv_is q.1 .long = true then some (pc + 1, al, r, some (some k, .inr (q.1, q.2.1, .inr (.inl (vp_updL q.2.2 i.toNatClampNeg x))))) else none
  | .aaload => some fun z mi pc al st h => iv_i st fun i r1 => iv_r r1 fun k r => (iv_aq h k).bind fun q => if iv_in i q.2.1 = true ∧ iv_iq q.1 = true then match q.2.2 i.toNatClampNeg with
      | some b => some (pc + 1, al, .ref b :: r, none)
      | none => none
    else none
  | .aastore => some fun z mi pc al st h => iv_r st fun b r2 => iv_i r2 fun i r1 => iv_r r1 fun k r => (iv_aq h k).bind fun q => if iv_in i q.2.1 = true ∧ iv_qc h q.1 b = true then some (pc + 1, al, r, some (some k, .inr (q.1, q.2.1, .inr (.inr (.inr (.inr (va_up q.2.2 i.toNatClampNeg (some b)))))))) else none
  | .dconst k => some fun z mi pc al st h => id_pd (pc + 1) al (bif Nat.beq (k : Nat) 0 then FP.dconst0 else FP.dconst1) st
  | .dload_n k => some fun z mi pc al st h => id_ld al (k : Nat) fun x => id_pd (pc + 1) al x st
  | .dload i => some fun z mi pc al st h => id_ld al i fun x => id_pd (pc + 2) al x st
  | .fload_n k => some fun z mi pc al st h => id_lf al (k : Nat) fun x => id_pf (pc + 1) al x st
  | .dstore_n k => some fun z mi pc al st h => id_st mi (pc + 1) (k : Nat) al st
  | .dstore i => some fun z mi pc al st h => id_st mi (pc + 2) i al st
  | .dadd => some fun z mi pc al st h => id_dd pc al st FP.dadd
  | .dsub => some fun z mi pc al st h => id_dd pc al st FP.dsub
  | .dmul => some fun z mi pc al st h => id_dd pc al st FP.dmul
  | .ddiv => some fun z mi pc al st h => id_dd pc al st FP.ddiv
  | .drem => some fun z mi pc al st h => id_dd pc al st FP.drem
  | .dcmp op => some fun z mi pc al st h => id_d st fun y r1 => id_d r1 fun x r => iv_pi (pc + 1) al (Op.cmpValue (FP.dcmp x y) op) r
  | .i2d => some fun z mi pc al st h => iv_i st fun x r => id_pd (pc + 1) al (FP.i2d x) r
  | .l2d => some fun z mi pc al st h => iv_j st fun x r => id_pd (pc + 1) al (FP.l2d x) r
  | .d2l => some fun z mi pc al st h => id_d st fun x r => iv_pj (pc + 1) al (FP.d2l x) r
  | .d2f => some fun z mi pc al st h => id_d st fun x r => id_gf (pc + 1) al (FP.d2f x) r
  | .f2d => some fun z mi pc al st h => id_f st fun x r => id_gd (pc + 1) al (FP.f2d x) r
  | .invokespecial idx => some fun z mi pc al st h => if iv_oi (iv_kf mi) idx = true then iv_r st fun _ r => if (r.map fun v => v.category).sum ≤ 8 then some (pc + 3, al, r, none) else none else none
  | .invokestatic idx => some fun z mi pc al st h => if iv_cp (iv_kf mi) idx = true then iv_cpy z pc al st h else if iv_mm (iv_kf mi) idx = true then iv_min pc al st else if iv_ma (iv_kf mi) idx = true then iv_max pc al st else id_jc mi pc idx al st
  | _ => none
def iv_op (z : iv_Z) (mi pc : Nat) (op : Jvm.ClassFile.Instr) (al : iv_L) (st : List Value) (h : iv_H) : Option iv_O := match iv_sem op with
  | some f => f z mi pc al st h
  | none => none
theorem iv_alen_s {z : iv_Z} {mi pc : Nat} {al : iv_L} {st : List Value} {h : iv_H} {o : iv_O} (e : iv_op z mi pc .arraylength al st h = some o) : (∃ k r a, st = .ref k :: r ∧ h[k]? = some (.inr a) ∧ (∃ ty, iv_ty[a.1]? = some ty) ∧ o = (pc + 1, al, .int (Int32.ofNat a.2.1) :: r, none)) ∨ ∃ k r q, st = .retAddr k :: r ∧ iv_zi z k = some q ∧ o = (pc + 1, al, .int (Int32.ofNat q.2.1) :: r, none) := by
  simp only [iv_op, iv_sem] at e
  split at e
  · split at e
    · rename_i a ha
      split at e
      · rename_i hs
        exact Or.inl ⟨_, _, a, rfl, ha, Option.isSome_iff_exists.mp hs, iv_pi_s e⟩
      · cases e
    · cases e
  · obtain ⟨q, e1, e_1⟩ := Option.bind_eq_some_iff.mp e
    exact Or.inr ⟨_, _, q, rfl, e1, iv_pi_s e_1⟩
  · cases e
theorem iv_iald_s {z : iv_Z} {mi pc : Nat} {al : iv_L} {st : List Value} {h : iv_H} {o : iv_O} (e : iv_op z mi pc .iaload al st h = some o) : (∃ i k r q, st = .int i :: .retAddr k :: r ∧ iv_zi z k = some q ∧ iv_in i q.2.1 = true ∧ iv_ty[q.1]? = some .int ∧ o = (pc + 1, al, .int (q.2.2 i.toNatClampNeg) :: r, none)) ∨ iv_ald .int pc al st h = some o := by
  simp only [iv_op, iv_sem] at e
  split at e
  · obtain ⟨q, e1, e_1⟩ := Option.bind_eq_some_iff.mp e
    split at e_1
    · rename_i hc
      exact Or.inl ⟨_, _, _, q, rfl, e1, hc.1, iv_is_s hc.2, iv_pi_s e_1⟩
    · cases e_1
  · exact Or.inr e
theorem iv_bald_s {z : iv_Z} {mi pc : Nat} {al : iv_L} {st : List Value} {h : iv_H} {o : iv_O} (e : iv_op z mi pc .baload al st h = some o) : (∃ i k r q, st = .int i :: .retAddr k :: r ∧ iv_zi z k = some q ∧ iv_in i q.2.1 = true ∧ iv_ty[q.1]? = some .byte ∧ o = (pc + 1, al, .int (q.2.2 i.toNatClampNeg) :: r, none)) ∨ iv_ald .byte pc al st h = some o ∨ iv_ald .boolean pc al st h = some o := by
  simp only [iv_op, iv_sem] at e
  split at e
  · obtain ⟨q, e1, e_1⟩ := Option.bind_eq_some_iff.mp e
    split at e_1
    · rename_i hc
      exact Or.inl ⟨_, _, _, q, rfl, e1, hc.1, iv_is_s hc.2, iv_pi_s e_1⟩
    · cases e_1
  · split at e
    · rename_i hS
      exact Or.inr (Or.inl (hS.trans e))
    · exact Or.inr (Or.inr e)
theorem iv_gfd_s {z : iv_Z} {mi pc idx : Nat} {al : iv_L} {st : List Value} {h : iv_H} {o : iv_O} (e : iv_op z mi pc (.getfield idx) al st h = some o) : (∃ k r v, st = .retAddr k :: r ∧ iv_zf z mi idx k = some v ∧ o = (pc + 3, al, v :: r, none)) ∨ ∃ k r v, st = .ref k :: r ∧ iv_gf mi idx h k = some v ∧ o = (pc + 3, al, v :: r, none) := by
  simp only [iv_op, iv_sem] at e
  split at e
  · obtain ⟨v, e1, e_1⟩ := Option.bind_eq_some_iff.mp e
    exact Or.inl ⟨_, _, v, rfl, e1, (Option.some.inj e_1).symm⟩
  · obtain ⟨k, r, rfl, e_1⟩ := iv_r_s e
    obtain ⟨v, e1, e_2⟩ := Option.bind_eq_some_iff.mp e_1
    exact Or.inr ⟨k, r, v, rfl, e1, (Option.some.inj e_2).symm⟩
theorem iv_ldc_s {z : iv_Z} {mi pc idx : Nat} {al : iv_L} {st : List Value} {h : iv_H} {o : iv_O} (e : iv_op z mi pc (.ldc idx) al st h = some o) : (∃ x, iv_lc (iv_kf mi) idx = some x ∧ o = (pc + 2, al, .int x :: st, none)) ∨ ∃ k, iv_ls (iv_kf mi) idx = some k ∧ (z k).isSome = true ∧ o = (pc + 2, al, .retAddr k :: st, none) := by
  simp only [iv_op, iv_sem] at e
  split at e
  · exact Or.inl ⟨_, by assumption, iv_pi_s e⟩
  · obtain ⟨k, e1, e_1⟩ := Option.bind_eq_some_iff.mp e
    split at e_1
    · rename_i hc
      exact Or.inr ⟨k, e1, hc, (Option.some.inj e_1).symm⟩
    · cases e_1
theorem iv_bast_s {z : iv_Z} {mi pc : Nat} {al : iv_L} {st : List Value} {h : iv_H} {o : iv_O} (e : iv_op z mi pc .bastore al st h = some o) : iv_ast .byte pc al st h = some o ∨ iv_ast .boolean pc al st h = some o := by
  simp only [iv_op, iv_sem] at e
  split at e
  · rename_i hS
    exact Or.inl (hS.trans e)
  · exact Or.inr e
theorem iv_iq_s {t : Nat} (h : iv_iq t = true) : (∃ C : String, iv_ty[t]? = some (.object C)) ∨ ∃ ty, iv_ty[t]? = some (.array ty) := by
  unfold iv_iq at h
  split at h
  · exact Or.inl ⟨_, by assumption⟩
  · exact Or.inr ⟨_, by assumption⟩
  · cases h
theorem iv_qc_s {h : iv_H} {t b : Nat} (e : iv_qc h t b = true) : ∃ ci fs r, h[b]? = some (.inl (ci, fs)) ∧ iv_cl[ci]? = some r ∧ iv_ty[t]? = some (.object r.1) := by
  unfold iv_qc at e
  split at e
  · rename_i o ho
    split at e
    · rename_i r hr
      exact ⟨o.1, o.2, r, ho, hr, iv_is_s e⟩
    · cases e
  · cases e
theorem iv_oi_s {z : iv_Z} {mi pc idx : Nat} {al : iv_L} {st : List Value} {h : iv_H} {o : iv_O} (e : iv_op z mi pc (.invokespecial idx) al st h = some o) : iv_oi (iv_kf mi) idx = true ∧ ∃ k r, st = .ref k :: r ∧ (r.map fun v => v.category).sum ≤ 8 ∧ o = (pc + 3, al, r, none) := by
  simp only [iv_op, iv_sem] at e
  split at e
  · rename_i h1
    obtain ⟨k, r, rfl, e_1⟩ := iv_r_s e
    split at e_1
    · rename_i h2
      exact ⟨h1, k, r, rfl, h2, (Option.some.inj e_1).symm⟩
    · cases e_1
  · cases e
theorem iv_cpy_s {z : iv_Z} {mi pc idx : Nat} {al : iv_L} {st : List Value} {h : iv_H} {o : iv_O} (e : iv_op z mi pc (.invokestatic idx) al st h = some o) : (iv_cp (iv_kf mi) idx = true ∧ ∃ (n dp : Int32) (b : Nat) (sp : Int32) (v : Value) (r : List Value) (q u : Nat × Nat × (Nat → Int32)), st = .int n :: .int dp :: .ref b :: .int sp :: v :: r ∧ h[b]? = some (.inr (u.1, u.2.1, .inl u.2.2)) ∧ iv_cpR q u sp dp n r = true ∧
    ((∃ a, v = .ref a ∧ h[a]? = some (.inr (q.1, q.2.1, .inl q.2.2)) ∧ ((iv_ty[q.1]? = some .int ∧ iv_ty[u.1]? = some .int) ∨ (iv_ty[q.1]? = some .byte ∧ iv_ty[u.1]? = some .byte))) ∨ ∃ a, v = .retAddr a ∧ iv_zi z a = some q ∧ iv_ty[q.1]? = some .byte ∧ iv_ty[u.1]? = some .byte) ∧
    o = (pc + 3, al, r, some (some b, .inr (u.1, u.2.1, .inl (va_cpy q.2.2 u.2.2 sp.toNatClampNeg dp.toNatClampNeg n.toNatClampNeg))))) ∨
    (¬ iv_cp (iv_kf mi) idx = true ∧ iv_mm (iv_kf mi) idx = true ∧ ∃ (y x : Int32) (r : List Value), st = .int y :: .int x :: r ∧ (r.map fun v => v.category).sum ≤ 8 ∧ o = (pc + 3, al, .int (if y < x then y else x) :: r, none)) ∨
    (¬ iv_cp (iv_kf mi) idx = true ∧ ¬ iv_mm (iv_kf mi) idx = true ∧ iv_ma (iv_kf mi) idx = true ∧ ∃ (y x : Int32) (r : List Value), st = .int y :: .int x :: r ∧ (r.map fun v => v.category).sum ≤ 8 ∧ o = (pc + 3, al, .int (if x < y then y else x) :: r, none)) ∨
    id_jc mi pc idx al st = some o := by
  simp only [iv_op, iv_sem] at e
  split at e
  · rename_i h1
    refine Or.inl ⟨h1, ?_⟩
    unfold iv_cpy at e
    obtain ⟨n, r4, rfl, e_1⟩ := iv_i_s e
    obtain ⟨dp, r3, rfl, e_2⟩ := iv_i_s e_1
    obtain ⟨b, r2, rfl, e_3⟩ := iv_r_s e_2
    obtain ⟨sp, r1, rfl, e_4⟩ := iv_i_s e_3
    split at e_4
    · obtain ⟨q, e1, e_6⟩ := Option.bind_eq_some_iff.mp e_4
      obtain ⟨u, e2, e_7⟩ := Option.bind_eq_some_iff.mp e_6
      split at e_7
      · rename_i hc
        refine ⟨n, dp, b, sp, _, _, q, u, rfl, iv_ai_s e2, hc.1, Or.inl ⟨_, rfl, iv_ai_s e1, ?_⟩, (Option.some.inj e_7).symm⟩
        rcases hc.2 with g | g
        · exact Or.inl ⟨iv_is_s g.1, iv_is_s g.2⟩
        · exact Or.inr ⟨iv_is_s g.1, iv_is_s g.2⟩
      · cases e_7
    · obtain ⟨q, e1, e_6⟩ := Option.bind_eq_some_iff.mp e_4
      obtain ⟨u, e2, e_7⟩ := Option.bind_eq_some_iff.mp e_6
      split at e_7
      · rename_i hc
        exact ⟨n, dp, b, sp, _, _, q, u, rfl, iv_ai_s e2, hc.1, Or.inr ⟨_, rfl, e1, iv_is_s hc.2.1, iv_is_s hc.2.2⟩, (Option.some.inj e_7).symm⟩
      · cases e_7
    · cases e_4
  · rename_i h0
    split at e
    · rename_i h1
      unfold iv_min at e
      obtain ⟨y, r1, rfl, e_1⟩ := iv_i_s e
      obtain ⟨x, r, rfl, e_2⟩ := iv_i_s e_1
      split at e_2
      · rename_i h8
        exact Or.inr (Or.inl ⟨h0, h1, y, x, r, rfl, h8, iv_pi_s e_2⟩)
      · cases e_2
    · rename_i h1
      split at e
      · rename_i h2
        unfold iv_max at e
        obtain ⟨y, r1, rfl, e_1⟩ := iv_i_s e
        obtain ⟨x, r, rfl, e_2⟩ := iv_i_s e_1
        split at e_2
        · rename_i h8
          exact Or.inr (Or.inr (Or.inl ⟨h0, h1, h2, y, x, r, rfl, h8, iv_pi_s e_2⟩))
        · cases e_2
      · exact Or.inr (Or.inr (Or.inr e))
