/-! RUNS OVER UNKNOWN INTS: .float b is the script's int of number b (b < 6), or any int; .double b the script's int as a long; an array of floats is an array of ints of unknown contents. V: between what the script's ints lie. -/
abbrev iv_V : Type := List (Int × Int)
def iv_γ (ρ : Nat → Int32) (a c : Value) : Prop := match a with
  | .float b => ∃ x : Int32, c = .int x ∧ (b.toNat < 6 → x = ρ b.toNat)
  | .double b => c = .long (ρ b.toNat).toInt64
  | v => c = v
def iv_γs (ρ : Nat → Int32) : List Value → List Value → Prop
  | [], [] => True
  | a :: as, c :: cs => iv_γ ρ a c ∧ iv_γs ρ as cs
  | _, _ => False
def iv_γo (ρ : Nat → Int32) (a b : Option Value) : Prop := match a, b with
  | none, none => True
  | some v, some c => iv_γ ρ v c
  | _, _ => False
def iv_γl (ρ : Nat → Int32) (al bl : iv_L) : Prop := al.length = bl.length ∧ ∀ (i : Nat) (a b : Option Value), al[i]? = some a → bl[i]? = some b → iv_γo ρ a b
/-- an array of unknown contents -/
def iv_ua (a : iv_C) : Bool := match a with
  | .inr (_, _, .inr (.inr (.inl _))) => true
  | _ => false
def iv_γc (a c : iv_C) : Prop := (iv_ua a = false ∧ a = c) ∨ ∃ (t n : Nat) (f : Nat → UInt32) (g : Nat → Int32), a = .inr (t, n, .inr (.inr (.inl f))) ∧ c = .inr (t, n, .inl g)
def iv_γh (h k : iv_H) : Prop := h.length = k.length ∧ ∀ (i : Nat) (a : iv_C), h[i]? = some a → ∃ c, k[i]? = some c ∧ iv_γc a c
def iv_sat (ρ : Nat → Int32) (V : iv_V) : Prop := ∀ (k : Nat) (q : Int × Int), V[k]? = some q → q.1 ≤ (ρ k).toInt ∧ (ρ k).toInt ≤ q.2
def iv_iv (V : iv_V) (k : Nat) : Int × Int := match V[k]? with
  | some q => q
  | none => (-2147483648, 2147483647)
def iv_tr (c : Jvm.ClassFile.Cond) (a b : Int) : Bool := match c with
  | .eq => decide (a = b)
  | .ne => decide (¬ a = b)
  | .lt => decide (a < b)
  | .ge => decide (b ≤ a)
  | .gt => decide (b < a)
  | .le => decide (a ≤ b)
section
variable {α : Type}
/-- regions of a number against c, and where the condition leads from there -/
def iv_rg (cc : Jvm.ClassFile.Cond) (c : Int) (a b : α) : List (Int × Int × α) := match cc with
  | .eq => [(c, c, a), (-9999999999, c - 1, b), (c + 1, 9999999999, b)]
  | .ne => [(c, c, b), (-9999999999, c - 1, a), (c + 1, 9999999999, a)]
  | .lt => [(-9999999999, c - 1, a), (c, 9999999999, b)]
  | .ge => [(-9999999999, c - 1, b), (c, 9999999999, a)]
  | .gt => [(-9999999999, c, b), (c + 1, 9999999999, a)]
  | .le => [(-9999999999, c, a), (c + 1, 9999999999, b)]
def iv_swc (cc : Jvm.ClassFile.Cond) : Jvm.ClassFile.Cond := match cc with
  | .lt => .gt
  | .ge => .le
  | .gt => .lt
  | .le => .ge
  | .eq => .eq
  | .ne => .ne
/-- the regions that are left to the script's int k -/
def iv_wy (V : iv_V) (k : Nat) : List (Int × Int × α) → List (iv_V × α)
  | [] => []
  | q :: l => if max (iv_iv V k).1 q.1 ≤ min (iv_iv V k).2 q.2.1 then (V.set k (max (iv_iv V k).1 q.1, min (iv_iv V k).2 q.2.1), q.2.2) :: iv_wy V k l else iv_wy V k l
/-- any of them -/
def iv_an (V : iv_V) : List (Int × Int × α) → List (iv_V × α)
  | [] => []
  | q :: l => (V, q.2.2) :: iv_an V l
theorem iv_an_s {V : iv_V} {l : List (Int × Int × α)} {q : Int × Int × α} (h : q ∈ l) : (V, q.2.2) ∈ iv_an V l := by
  induction l with
  | nil => cases h
  | cons a l ih =>
    rcases List.mem_cons.mp h with rfl | h
    · exact List.mem_cons_self
    · exact List.mem_cons_of_mem _ (ih h)
theorem iv_iv_s {ρ : Nat → Int32} {V : iv_V} (h : iv_sat ρ V) (k : Nat) : (iv_iv V k).1 ≤ (ρ k).toInt ∧ (ρ k).toInt ≤ (iv_iv V k).2 := by
  unfold iv_iv
  split
  · exact h k _ (by assumption)
  · have a := Int32.le_toInt (ρ k)
    have b := Int32.toInt_lt (ρ k)
    exact ⟨by simpa using a, by show (ρ k).toInt ≤ 2147483647; omega⟩
theorem iv_wy_s {ρ : Nat → Int32} {V : iv_V} {k : Nat} {l : List (Int × Int × α)} {q : Int × Int × α} (hV : iv_sat ρ V) (h : q ∈ l) (h1 : q.1 ≤ (ρ k).toInt) (h2 : (ρ k).toInt ≤ q.2.1) : ∃ V', (V', q.2.2) ∈ iv_wy V k l ∧ iv_sat ρ V' := by
  obtain ⟨b1, b2⟩ := iv_iv_s hV k
  induction l with
  | nil => cases h
  | cons a l ih =>
    unfold iv_wy
    rcases List.mem_cons.mp h with rfl | h
    · have g1 : max (iv_iv V k).1 q.1 ≤ (ρ k).toInt := Int.max_le.mpr ⟨b1, h1⟩
      have g2 : (ρ k).toInt ≤ min (iv_iv V k).2 q.2.1 := Int.le_min.mpr ⟨b2, h2⟩
      rw [if_pos (Int.le_trans g1 g2)]
      refine ⟨_, List.mem_cons_self, fun j x hj => ?_⟩
      rw [List.getElem?_set] at hj
      split at hj
      · rename_i e
        subst e
        split at hj
        · cases hj; exact ⟨g1, g2⟩
        · cases hj
      · exact hV j x hj
    · obtain ⟨V', m1, m2⟩ := ih h
      split
      · exact ⟨V', List.mem_cons_of_mem _ m1, m2⟩
      · exact ⟨V', m1, m2⟩
theorem iv_rg_s (cc : Jvm.ClassFile.Cond) (c : Int) (a b : α) {v : Int} (h1 : -9999999999 ≤ v) (h2 : v ≤ 9999999999) : ∃ q ∈ iv_rg cc c a b, q.1 ≤ v ∧ v ≤ q.2.1 ∧ q.2.2 = if iv_tr cc v c = true then a else b := by
  cases cc <;> simp only [iv_rg, iv_tr, List.mem_cons, List.not_mem_nil, or_false, exists_eq_or_imp, exists_eq_left, decide_eq_true_eq]
  · rcases Int.lt_trichotomy v c with h | h | h
    · exact Or.inr (Or.inl ⟨h1, by omega, by rw [if_neg (by omega)]⟩)
    · exact Or.inl ⟨by omega, by omega, by rw [if_pos h]⟩
    · exact Or.inr (Or.inr ⟨by omega, h2, by rw [if_neg (by omega)]⟩)
  · rcases Int.lt_trichotomy v c with h | h | h
    · exact Or.inr (Or.inl ⟨h1, by omega, by rw [if_pos (by omega)]⟩)
    · exact Or.inl ⟨by omega, by omega, by rw [if_neg (by omega)]⟩
    · exact Or.inr (Or.inr ⟨by omega, h2, by rw [if_pos (by omega)]⟩)
  · rcases (show v < c ∨ c ≤ v by omega) with h | h
    · exact Or.inl ⟨h1, by omega, by rw [if_pos h]⟩
    · exact Or.inr ⟨h, h2, by rw [if_neg (by omega)]⟩
  · rcases (show v < c ∨ c ≤ v by omega) with h | h
    · exact Or.inl ⟨h1, by omega, by rw [if_neg (by omega)]⟩
    · exact Or.inr ⟨h, h2, by rw [if_pos h]⟩
  · rcases (show c < v ∨ v ≤ c by omega) with h | h
    · exact Or.inr ⟨by omega, h2, by rw [if_pos h]⟩
    · exact Or.inl ⟨h1, h, by rw [if_neg (by omega)]⟩
  · rcases (show c < v ∨ v ≤ c by omega) with h | h
    · exact Or.inr ⟨by omega, h2, by rw [if_neg (by omega)]⟩
    · exact Or.inl ⟨h1, h, by rw [if_pos h]⟩
end
theorem iv_rng (x : Int32) : -9999999999 ≤ x.toInt ∧ x.toInt ≤ 9999999999 := by
  have a := Int32.le_toInt x
  have b := Int32.toInt_lt x
  omega
theorem iv_tr_swc (cc : Jvm.ClassFile.Cond) (a b : Int) : iv_tr (iv_swc cc) a b = iv_tr cc b a := by
  cases cc <;> simp only [iv_swc, iv_tr] <;> congr 1 <;> simp [eq_comm]
def iv_U : Value := .float 999
def iv_vals (lo : Int) : Nat → List (Int × Int × Int)
  | 0 => []
  | n + 1 => (lo, lo, lo) :: iv_vals (lo + 1) n
theorem iv_vals_s : ∀ (n : Nat) (lo v : Int), lo ≤ v → v < lo + n → (v, v, v) ∈ iv_vals lo n := by
  intro n
  induction n with
  | zero => intro lo v h1 h2; omega
  | succ n ih =>
    intro lo v h1 h2
    unfold iv_vals
    by_cases h : v = lo
    · rw [h]; exact List.mem_cons_self
    · exact List.mem_cons_of_mem _ (ih (lo + 1) v (by omega) (by omega))
def iv_xl (V : iv_V) (al : iv_L) (i pc : Nat) (st : List Value) : Option (List (iv_V × iv_O)) := match al[i]? with
  | some (some (.float b)) => if b.toNat < 6 ∧ (iv_iv V b.toNat).2 ≤ (iv_iv V b.toNat).1 then some [(V, (pc, al, .int (Int32.ofInt (iv_iv V b.toNat).1) :: st, none))]
    else some [(V, (pc, al, .float b :: st, none))]
  | _ => none
def iv_xll (V : iv_V) (al : iv_L) (i pc : Nat) (st : List Value) : Option (List (iv_V × iv_O)) := match al[i]? with
  | some (some (.double b)) => some [(V, (pc, al, .double b :: st, none))]
  | _ => none
def iv_xst (V : iv_V) (mi : Nat) (al : iv_L) (i pc : Nat) (st : List Value) : Option (List (iv_V × iv_O)) := match st with
  | .float b :: r => (iv_sl mi i 0 (pc, iv_s1 al i (.float b), r, none)).map fun o => [(V, o)]
  | _ => none
/-- arithmetic that nobody asks the value of -/
def iv_u2 (V : iv_V) (pc : Nat) (al : iv_L) (st : List Value) : Option (List (iv_V × iv_O)) := match st with
  | .float _ :: .int _ :: r => some [(V, (pc + 1, al, iv_U :: r, none))]
  | .int _ :: .float _ :: r => some [(V, (pc + 1, al, iv_U :: r, none))]
  | .float _ :: .float _ :: r => some [(V, (pc + 1, al, iv_U :: r, none))]
  | _ => none
/-- .. or of few values -/
def iv_a2 (V : iv_V) (pc : Nat) (al : iv_L) (st : List Value) (f : Int32 → Int32 → Int32) : Option (List (iv_V × iv_O)) := match st with
  | .float b :: .int x :: r => if b.toNat < 6 ∧ (iv_iv V b.toNat).2 - (iv_iv V b.toNat).1 ≤ 15 then some ((iv_wy V b.toNat (iv_vals (iv_iv V b.toNat).1 16)).map fun q => (q.1, (pc + 1, al, .int (f x (Int32.ofInt q.2)) :: r, none)))
    else some [(V, (pc + 1, al, iv_U :: r, none))]
  | .int y :: .float b :: r => if b.toNat < 6 ∧ (iv_iv V b.toNat).2 - (iv_iv V b.toNat).1 ≤ 15 then some ((iv_wy V b.toNat (iv_vals (iv_iv V b.toNat).1 16)).map fun q => (q.1, (pc + 1, al, .int (f (Int32.ofInt q.2) y) :: r, none)))
    else some [(V, (pc + 1, al, iv_U :: r, none))]
  | st => iv_u2 V pc al st
def iv_bo (V : iv_V) (t pc : Nat) (al : iv_L) (r : List Value) : Option (List (iv_V × iv_O)) := some [(V, (t, al, r, none)), (V, (pc + 3, al, r, none))]
def iv_xc2 (V : iv_V) (cc : Jvm.ClassFile.Cond) (pc : Nat) (off : Int) (al : iv_L) (st : List Value) : Option (List (iv_V × iv_O)) := match iv_tg pc off with
  | none => none
  | some t => match st with
    | .float a :: .float b :: r => if a = b ∧ a.toNat < 6 then some [(V, ((if iv_tr cc 0 0 = true then t else pc + 3), al, r, none))] else iv_bo V t pc al r
    | .int y :: .float b :: r => if b.toNat < 6 then some (iv_wy V b.toNat (iv_rg cc y.toInt (t, al, r, none) (pc + 3, al, r, none))) else iv_bo V t pc al r
    | .float b :: .int x :: r => if b.toNat < 6 then some (iv_wy V b.toNat (iv_rg (iv_swc cc) x.toInt (t, al, r, none) (pc + 3, al, r, none))) else iv_bo V t pc al r
    | _ => none
def iv_xc1 (V : iv_V) (cc : Jvm.ClassFile.Cond) (pc : Nat) (off : Int) (al : iv_L) (st : List Value) : Option (List (iv_V × iv_O)) := match iv_tg pc off with
  | none => none
  | some t => match st with
    | .float b :: r => if b.toNat < 6 then some (iv_wy V b.toNat (iv_rg cc 0 (t, al, r, none) (pc + 3, al, r, none))) else iv_bo V t pc al r
    | _ => none
def iv_swr (pc : Nat) (al : iv_L) (r : List Value) : Int → List Int → Option (List (Int × Int × iv_O))
  | _, [] => some []
  | v, off :: l => match iv_tg pc off with
    | none => none
    | some t => match iv_swr pc al r (v + 1) l with
      | none => none
      | some q => some ((v, v, (t, al, r, none)) :: q)
theorem iv_swr_s {pc : Nat} {al : iv_L} {r : List Value} : ∀ (l : List Int) (v : Int) (q : List (Int × Int × iv_O)), iv_swr pc al r v l = some q → ∀ (j : Nat) (off : Int), l[j]? = some off → ∃ t : Nat, iv_tg pc off = some t ∧ (v + j, v + j, (t, al, r, none)) ∈ q := by
  intro l
  induction l with
  | nil => intro v q h j off hj; simp at hj
  | cons a l ih =>
    intro v q h j off hj
    unfold iv_swr at h
    split at h
    · cases h
    · rename_i t ht
      split at h
      · cases h
      · rename_i q2 hq2
        cases h
        cases j with
        | zero =>
          rw [List.getElem?_cons_zero] at hj
          cases hj
          refine ⟨t, ht, ?_⟩
          simp
        | succ j =>
          rw [List.getElem?_cons_succ] at hj
          obtain ⟨t2, a1, a2⟩ := ih (v + 1) q2 hq2 j off hj
          refine ⟨t2, a1, List.mem_cons_of_mem _ ?_⟩
          rw [show v + ((j + 1 : Nat) : Int) = v + 1 + (j : Int) by omega]
          exact a2
def iv_xsw (V : iv_V) (pc : Nat) (d lo hi : Int) (offs : List Int) (al : iv_L) (st : List Value) : Option (List (iv_V × iv_O)) := match st with
  | .float b :: r => if hi < lo + offs.length then match iv_tg pc d with
    | none => none
    | some t => match iv_swr pc al r lo offs with
      | none => none
      | some q => if b.toNat < 6 then some (iv_wy V b.toNat ((-9999999999, lo - 1, (t, al, r, none)) :: (hi + 1, 9999999999, (t, al, r, none)) :: q)) else some (iv_an V ((-9999999999, lo - 1, (t, al, r, none)) :: (hi + 1, 9999999999, (t, al, r, none)) :: q))
    else none
  | _ => none
/-- an array of ints, known or not: type and length -/
def iv_ak (h : iv_H) (k : Nat) : Option (Nat × Nat) := match h[k]? with
  | some (.inr (t, n, .inl _)) => some (t, n)
  | some (.inr (t, n, .inr (.inr (.inl _)))) => some (t, n)
  | _ => none
def iv_xin (V : iv_V) (mi : Nat) (al : iv_L) (i : Nat) (n : Int) (pc : Nat) (st : List Value) : Option (List (iv_V × iv_O)) := match al[i]? with
  | some (some (.float b)) => if b.toNat < 6 ∧ (iv_iv V b.toNat).2 - (iv_iv V b.toNat).1 ≤ 15 ∧ i + 0 < iv_mx mi then some ((iv_wy V b.toNat (iv_vals (iv_iv V b.toNat).1 16)).map fun q => (q.1, (pc + 3, iv_s1 al i (.int (Int32.ofInt q.2 + Int32.ofInt n)), st, none))) else none
  | _ => none
def iv_isn (v : Value) : Bool := match v with
  | .int _ => true
  | .float _ => true
  | _ => false
def iv_sy (v : Value) : Bool := match v with
  | .float _ => true
  | _ => false
def iv_ix (V : iv_V) (i : Value) (n : Nat) : Bool := match i with
  | .int j => iv_in j n
  | .float b => decide (b.toNat < 6 ∧ 0 ≤ (iv_iv V b.toNat).1 ∧ (iv_iv V b.toNat).2 < (n : Int))
  | _ => false
def iv_xas (V : iv_V) (ty : FieldType) (pc : Nat) (al : iv_L) (st : List Value) (h : iv_H) : Option (List (iv_V × iv_O)) := match st with
  | v :: i :: .ref k :: r => if iv_isn v = true ∧ (iv_sy v || (iv_sy i || (iv_ai h k).isNone)) = true then match iv_ak h k with
    | some q => if iv_ix V i q.2 = true ∧ iv_is q.1 ty = true then some [(V, (pc + 1, al, r, some (some k, .inr (q.1, q.2, .inr (.inr (.inl (fun _ => 0)))))))] else none
    | none => none
    else none
  | _ => none
/-- an int out of a row of equal ones -/
def iv_xal (V : iv_V) (pc : Nat) (al : iv_L) (st : List Value) (h : iv_H) : Option (List (iv_V × iv_O)) := match st with
  | .float b :: .ref k :: r => match iv_ai h k with
    | some q => if b.toNat < 6 ∧ 0 ≤ (iv_iv V b.toNat).1 ∧ (iv_iv V b.toNat).2 < (q.2.1 : Int) ∧ iv_is q.1 .int = true ∧ ((List.range ((iv_iv V b.toNat).2 - (iv_iv V b.toNat).1 + 1).toNat).all fun j => decide (q.2.2 ((iv_iv V b.toNat).1.toNat + j) = q.2.2 (iv_iv V b.toNat).1.toNat)) = true then some [(V, (pc + 1, al, .int (q.2.2 (iv_iv V b.toNat).1.toNat) :: r, none))] else none
    | none => none
  | _ => none
/-- an object out of a row -/
def iv_xaq (V : iv_V) (pc : Nat) (al : iv_L) (st : List Value) (h : iv_H) : Option (List (iv_V × iv_O)) := match st with
  | .float b :: .ref k :: r => match iv_aq h k with
    | some q => if b.toNat < 6 ∧ 0 ≤ (iv_iv V b.toNat).1 ∧ (iv_iv V b.toNat).2 < (q.2.1 : Int) ∧ (iv_iv V b.toNat).2 - (iv_iv V b.toNat).1 ≤ 15 ∧ iv_iq q.1 = true ∧ ((iv_wy V b.toNat (iv_vals (iv_iv V b.toNat).1 16)).all fun w => (q.2.2 w.2.toNat).isSome) = true then
        some ((iv_wy V b.toNat (iv_vals (iv_iv V b.toNat).1 16)).map fun w => (w.1, (pc + 1, al, (va_rf (q.2.2 w.2.toNat)) :: r, none))) else none
    | none => none
  | _ => none
def iv_xsem (op : Jvm.ClassFile.Instr) : Option (Option (Nat × Int32) → iv_V → Nat → Nat → iv_L → List Value → iv_H → Option (List (iv_V × iv_O))) := match op with
  | .iload_n k => some fun scr V mi pc al st h => iv_xl V al (k : Nat) (pc + 1) st
  | .iload k => some fun scr V mi pc al st h => iv_xl V al k (pc + 2) st
  | .lload_n k => some fun scr V mi pc al st h => iv_xll V al (k : Nat) (pc + 1) st
  | .lload k => some fun scr V mi pc al st h => iv_xll V al k (pc + 2) st
  | .istore_n k => some fun scr V mi pc al st h => iv_xst V mi al (k : Nat) (pc + 1) st
  | .istore k => some fun scr V mi pc al st h => iv_xst V mi al k (pc + 2) st
  | .iinc i n => some fun scr V mi pc al st h => iv_xin V mi al i n pc st
  | .i2l => some fun scr V mi pc al st h => match st with
    | .float b :: r => if b.toNat < 6 then some [(V, (pc + 1, al, .double (UInt64.ofNat b.toNat) :: r, none))] else none
    | _ => none
  | .lcmp => some fun scr V mi pc al st h => match st with
    | .long c :: .double b :: r => some (iv_wy V b.toNat [(-9999999999, c.toInt - 1, (pc + 1, al, .int (-1) :: r, none)), (c.toInt, c.toInt, (pc + 1, al, .int 0 :: r, none)), (c.toInt + 1, 9999999999, (pc + 1, al, .int 1 :: r, none))])
    | _ => none
  | .if_icmp cc off => some fun scr V mi pc al st h => iv_xc2 V cc pc off al st
  | .ifCond cc off => some fun scr V mi pc al st h => iv_xc1 V cc pc off al st
  | .iadd => some fun scr V mi pc al st h => iv_a2 V pc al st (fun x y => x + y)
  | .isub => some fun scr V mi pc al st h => iv_a2 V pc al st (fun x y => x - y)
  | .imul => some fun scr V mi pc al st h => iv_a2 V pc al st (fun x y => x * y)
  | .iand => some fun scr V mi pc al st h => match scr with
    | none => iv_u2 V pc al st
    | some c => match st with
      | .int m :: .float b :: r => if m = 31 ∧ b.toNat = 0 ∧ c.1 = 6 then some [(V, (pc + 1, al, .int c.2 :: r, none))] else iv_u2 V pc al st
      | st => iv_u2 V pc al st
  | .ior => some fun scr V mi pc al st h => iv_u2 V pc al st
  | .ishl => some fun scr V mi pc al st h => iv_u2 V pc al st
  | .ishr => some fun scr V mi pc al st h => iv_u2 V pc al st
  | .iushr => some fun scr V mi pc al st h => iv_u2 V pc al st
  | .i2b => some fun scr V mi pc al st h => match st with
    | .float _ :: r => some [(V, (pc + 1, al, iv_U :: r, none))]
    | _ => none
  | .tableswitch d lo hi offs => some fun scr V mi pc al st h => iv_xsw V pc d lo hi offs.toList al st
  | .iaload => some fun scr V mi pc al st h => match st with
    | .int i :: .retAddr _ :: r => match scr with
      | some c => if iv_in i c.1 = true ∧ i.toNatClampNeg < 6 then some [(V, (pc + 1, al, .float (UInt32.ofNat i.toNatClampNeg) :: r, none))] else none
      | none => none
    | st => iv_xal V pc al st h
  | .aaload => some fun scr V mi pc al st h => iv_xaq V pc al st h
  | .arraylength => some fun scr V mi pc al st h => match st with
    | .retAddr _ :: r => match scr with
      | some c => some [(V, (pc + 1, al, .int (Int32.ofNat c.1) :: r, none))]
      | none => none
    | _ => none
  | .iastore => some fun scr V mi pc al st h => iv_xas V .int pc al st h
  | .bastore => some fun scr V mi pc al st h => iv_xas V .byte pc al st h
  | _ => none
def iv_xs (scr : Option (Nat × Int32)) (V : iv_V) (mi pc : Nat) (op : Jvm.ClassFile.Instr) (al : iv_L) (st : List Value) (h : iv_H) : Option (List (iv_V × iv_O)) := match iv_xsem op with
  | some f => f scr V mi pc al st h
  | none => none
/-- a value that is known -/
def iv_fv (v : Value) : Bool := match v with
  | .float _ => false
  | .double _ => false
  | _ => true
def iv_feb (f : iv_F) : Bool := match f with
  | some (_, .inl o) => o.2.all iv_fv
  | some (_, .inr a) => !iv_ua (.inr a)
  | none => true
def iv_cm0 (mi : Nat) (op : Jvm.ClassFile.Instr) : Bool := match iv_cc op with
  | none => true
  | some q => (iv_mt (iv_kf mi) q.2).isNone
def iv_x (scr : Option (Nat × Int32)) (V : iv_V) (mi pc : Nat) (op : Jvm.ClassFile.Instr) (al : iv_L) (st : List Value) (h : iv_H) : Option (List (iv_V × iv_O)) := match iv_xs scr V mi pc op al st h with
  | some l => some l
  | none => (iv_op none mi pc op al st h).bind fun o => if iv_feb o.2.2.2 = true then some [(V, o)] else none
def iv_bd {α β : Type} (f : α → Option (List β)) : List α → Option (List β)
  | [] => some []
  | a :: l => match f a with
    | none => none
    | some x => match iv_bd f l with
      | none => none
      | some y => some (x ++ y)
theorem iv_bd_s {α β : Type} {f : α → Option (List β)} : ∀ (l : List α) (r : List β), iv_bd f l = some r → ∀ a ∈ l, ∃ x, f a = some x ∧ ∀ b ∈ x, b ∈ r := by
  intro l
  induction l with
  | nil => intro r h a ha; cases ha
  | cons a l ih =>
    intro r h b hb
    unfold iv_bd at h
    split at h
    · cases h
    · rename_i x hx
      split at h
      · cases h
      · rename_i y hy
        cases h
        rcases List.mem_cons.mp hb with rfl | hb
        · exact ⟨x, hx, fun c hc => List.mem_append_left _ hc⟩
        · obtain ⟨x2, h1, h2⟩ := ih y hy b hb
          exact ⟨x2, h1, fun c hc => List.mem_append_right _ (h2 c hc)⟩
/-- what remembers() of the reference does, the first time -/
def iv_sum2 (h : iv_H) (k : Nat) (fs : List Value) (a b : Nat) : Option iv_H := match iv_ak h a with
  | none => none
  | some q => match iv_ak h b with
    | none => none
    | some u => if q.2 = 340 ∧ u.2 = 2720 ∧ iv_is q.1 .int = true ∧ iv_is u.1 .int = true then some ((h.set b (.inr (u.1, 2720, .inr (.inr (.inl (fun _ => 0)))))).set k (.inl (10, fs.set 2 (.int 1)))) else none
def iv_sum1 (h : iv_H) (k : Nat) (fs : List Value) : Option iv_H := match fs[0]? with
  | some (Value.ref a) => match fs[1]? with
    | some (Value.ref b) => match fs[2]? with
      | some (Value.int x) => if x = 0 then iv_sum2 h k fs a b else none
      | _ => none
    | _ => none
  | _ => none
def iv_sum (mj : Nat) (vs : List Value) (h : iv_H) : Option iv_H := if mj = 132 then match vs with
  | [Value.ref k] => match h[k]? with
    | some (.inl o) => if o.1 = 10 then iv_sum1 h k o.2 else none
    | _ => none
  | _ => none
  else none
theorem iv_sum_s {mj : Nat} {vs : List Value} {h h1 : iv_H} (e : iv_sum mj vs h = some h1) : mj = 132 ∧ ∃ (k a b : Nat) (fs : List Value) (q u : Nat × Nat), vs = [.ref k] ∧ h[k]? = some (.inl (10, fs)) ∧ fs[0]? = some (.ref a) ∧ fs[1]? = some (.ref b) ∧ fs[2]? = some (.int 0) ∧ iv_ak h a = some q ∧ iv_ak h b = some u ∧ q.2 = 340 ∧ u.2 = 2720 ∧ iv_ty[q.1]? = some .int ∧ iv_ty[u.1]? = some .int ∧ h1 = (h.set b (.inr (u.1, 2720, .inr (.inr (.inl (fun _ => 0)))))).set k (.inl (10, fs.set 2 (.int 1))) := by
  unfold iv_sum at e
  split at e
  · rename_i hm
    split at e
    · rename_i k
      split at e
      · rename_i o ho
        split at e
        · rename_i h10
          obtain ⟨c, fs⟩ := o
          dsimp only at h10 e
          subst h10
          unfold iv_sum1 at e
          split at e
          · rename_i a ha
            split at e
            · rename_i b hb
              split at e
              · rename_i x hx
                split at e
                · rename_i hx0
                  subst hx0
                  unfold iv_sum2 at e
                  split at e
                  · cases e
                  · rename_i q hq
                    split at e
                    · cases e
                    · rename_i u hu
                      split at e
                      · rename_i hc
                        exact ⟨hm, k, a, b, fs, q, u, rfl, ho, ha, hb, hx, hq, hu, hc.1, hc.2.1, of_decide_eq_true hc.2.2.1, of_decide_eq_true hc.2.2.2, (Option.some.inj e).symm⟩
                      · cases e
                · cases e
              · cases e
            · cases e
          · cases e
        · cases e
      · cases e
    · cases e
  · cases e
def iv_xr : Nat → Option (Nat × Int32) → Nat → Nat → iv_V → iv_S → Option (List (iv_V × Option Value × iv_H))
  | 0, _, _, _, _, _ => none
  | n + 1, scr, d, mi, V, S => match iv_cd mi S.1 with
    | none => none
    | some op => if iv_isr op = true then (iv_re mi op S.2.2.1).map fun v => [(V, v, S.2.2.2)]
      else match iv_ca mi op S.2.2.1 S.2.2.2 with
        | some c => match d with
          | 0 => none
          | d' + 1 => match iv_sum c.1 c.2.1 S.2.2.2 with
            | some h1 => iv_xr n scr (d' + 1) mi V (S.1 + 3, S.2.1, c.2.2, h1)
            | none => match iv_xr n none d' c.1 V (0, iv_en c.1 c.2.1, [], S.2.2.2) with
              | none => none
              | some l => iv_bd (fun q => iv_xr n scr (d' + 1) mi q.1 (S.1 + 3, S.2.1, q.2.1.toList ++ c.2.2, q.2.2)) l
        | none => if iv_cm0 mi op = false then none else match iv_x scr V mi S.1 op S.2.1 S.2.2.1 S.2.2.2 with
          | none => none
          | some l => iv_bd (fun o => match iv_ef S.2.2.2 o.2.2.2.2 with
            | none => none
            | some h' => iv_xr n scr d mi o.1 (o.2.1, o.2.2.1, o.2.2.2.1, h')) l
