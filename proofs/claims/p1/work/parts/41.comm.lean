/-! WHERE NO UNKNOWN IS ASKED, THE TWO RUNS GO ALIKE -/
theorem iv_γ_cat {ρ : Nat → Int32} {a c : Value} (h : iv_γ ρ a c) : c.category = a.category := by
  cases a with
  | float b => obtain ⟨x, rfl, -⟩ := h; rfl
  | double b => have h : c = _ := h; subst h; rfl
  | _ => have h : c = _ := h; subst h; rfl
theorem iv_γs_c {ρ : Nat → Int32} {a : Value} {r st : List Value} (h : iv_γs ρ (a :: r) st) : ∃ c r', st = c :: r' ∧ iv_γ ρ a c ∧ iv_γs ρ r r' := by
  cases st with
  | nil => exact absurd h (fun q => q)
  | cons c r' => exact ⟨c, r', rfl, h.1, h.2⟩
theorem iv_γs_n {ρ : Nat → Int32} {st : List Value} (h : iv_γs ρ [] st) : st = [] := by
  cases st with
  | nil => rfl
  | cons c r' => exact absurd h (fun q => q)
theorem iv_γs_i {ρ : Nat → Int32} {x : Int32} {r st : List Value} (h : iv_γs ρ (.int x :: r) st) : ∃ r', st = .int x :: r' ∧ iv_γs ρ r r' := by
  obtain ⟨c, r', rfl, h1, h2⟩ := iv_γs_c h
  have h1 : c = _ := h1
  subst h1
  exact ⟨r', rfl, h2⟩
theorem iv_γs_j {ρ : Nat → Int32} {x : Int64} {r st : List Value} (h : iv_γs ρ (.long x :: r) st) : ∃ r', st = .long x :: r' ∧ iv_γs ρ r r' := by
  obtain ⟨c, r', rfl, h1, h2⟩ := iv_γs_c h
  have h1 : c = _ := h1
  subst h1
  exact ⟨r', rfl, h2⟩
theorem iv_γs_r {ρ : Nat → Int32} {x : Nat} {r st : List Value} (h : iv_γs ρ (.ref x :: r) st) : ∃ r', st = .ref x :: r' ∧ iv_γs ρ r r' := by
  obtain ⟨c, r', rfl, h1, h2⟩ := iv_γs_c h
  have h1 : c = _ := h1
  subst h1
  exact ⟨r', rfl, h2⟩
theorem iv_γs_q {ρ : Nat → Int32} {x : Nat} {r st : List Value} (h : iv_γs ρ (.retAddr x :: r) st) : ∃ r', st = .retAddr x :: r' ∧ iv_γs ρ r r' := by
  obtain ⟨c, r', rfl, h1, h2⟩ := iv_γs_c h
  have h1 : c = _ := h1
  subst h1
  exact ⟨r', rfl, h2⟩
theorem iv_γl_get {ρ : Nat → Int32} {al bl : iv_L} (h : iv_γl ρ al bl) {i : Nat} {v : Value} (hi : al[i]? = some (some v)) : ∃ c, bl[i]? = some (some c) ∧ iv_γ ρ v c := by
  have hl : i < bl.length := by rw [← h.1]; exact (List.getElem?_eq_some_iff.mp hi).1
  obtain ⟨b, hb⟩ : ∃ b, bl[i]? = some b := ⟨bl[i], List.getElem?_eq_getElem hl⟩
  have g := h.2 i _ b hi hb
  cases b with
  | none => exact absurd g (fun q => q)
  | some c => exact ⟨c, hb, g⟩
theorem iv_γl_set {ρ : Nat → Int32} {al bl : iv_L} (h : iv_γl ρ al bl) (i : Nat) {a b : Option Value} (g : iv_γo ρ a b) : iv_γl ρ (al.set i a) (bl.set i b) := by
  refine ⟨by rw [List.length_set, List.length_set]; exact h.1, fun j x y hx hy => ?_⟩
  rw [List.getElem?_set] at hx hy
  by_cases e : i = j
  · rw [if_pos e] at hx hy
    subst e
    split at hx
    · split at hy
      · cases hx; cases hy; exact g
      · cases hy
    · cases hx
  · rw [if_neg e] at hx hy
    exact h.2 j x y hx hy
theorem iv_γl_k {ρ : Nat → Int32} {al bl : iv_L} (h : iv_γl ρ al bl) (i : Nat) : iv_γl ρ (iv_k al i) (iv_k bl i) := by
  cases i with
  | zero => exact h
  | succ j =>
    show iv_γl ρ (match al[j]? with
      | some (some w) => if w.category = 2 then al.set j none else al
      | _ => al) (match bl[j]? with
      | some (some w) => if w.category = 2 then bl.set j none else bl
      | _ => bl)
    cases ha : al[j]? with
    | none =>
      have hb : bl[j]? = none := by
        rw [List.getElem?_eq_none_iff] at ha ⊢
        rw [← h.1]; exact ha
      rw [hb]
      exact h
    | some a =>
      have hl : j < bl.length := by rw [← h.1]; exact (List.getElem?_eq_some_iff.mp ha).1
      have hb : bl[j]? = some bl[j] := List.getElem?_eq_getElem hl
      have g := h.2 j a _ ha hb
      rw [hb]
      generalize bl[j] = b at g
      cases a with
      | none =>
        cases b with
        | none => exact h
        | some c => exact absurd g (fun q => q)
      | some v =>
        cases b with
        | none => exact absurd g (fun q => q)
        | some c =>
          dsimp only
          rw [iv_γ_cat g]
          split
          · exact iv_γl_set h j (show iv_γo ρ none none from trivial)
          · exact h
theorem iv_γl_s1 {ρ : Nat → Int32} {al bl : iv_L} (h : iv_γl ρ al bl) (i : Nat) {v c : Value} (g : iv_γ ρ v c) : iv_γl ρ (iv_s1 al i v) (iv_s1 bl i c) := iv_γl_set (iv_γl_k h i) i (show iv_γo ρ (some v) (some c) from g)
theorem iv_γl_s2 {ρ : Nat → Int32} {al bl : iv_L} (h : iv_γl ρ al bl) (i : Nat) {v c : Value} (g : iv_γ ρ v c) : iv_γl ρ (iv_s2 al i v) (iv_s2 bl i c) := iv_γl_set (iv_γl_set (iv_γl_k h i) (i + 1) (show iv_γo ρ none none from trivial)) i (show iv_γo ρ (some v) (some c) from g)
theorem iv_γh_o {h k : iv_H} (g : iv_γh h k) {i : Nat} {o : Nat × List Value} (e : h[i]? = some (.inl o)) : k[i]? = some (.inl o) := by
  obtain ⟨c, h1, h2⟩ := g.2 i _ e
  rcases h2 with ⟨-, rfl⟩ | ⟨t, n, f, q, h2, -⟩
  · exact h1
  · cases h2
theorem iv_γh_i {h k : iv_H} (g : iv_γh h k) {i t n : Nat} {f : Nat → Int32} (e : h[i]? = some (.inr (t, n, .inl f))) : k[i]? = some (.inr (t, n, .inl f)) := by
  obtain ⟨c, h1, h2⟩ := g.2 i _ e
  rcases h2 with ⟨-, rfl⟩ | ⟨t, n, f, q, h2, -⟩
  · exact h1
  · cases h2
theorem iv_γh_j {h k : iv_H} (g : iv_γh h k) {i t n : Nat} {f : Nat → Int64} (e : h[i]? = some (.inr (t, n, .inr (.inl f)))) : k[i]? = some (.inr (t, n, .inr (.inl f))) := by
  obtain ⟨c, h1, h2⟩ := g.2 i _ e
  rcases h2 with ⟨-, rfl⟩ | ⟨t, n, f, q, h2, -⟩
  · exact h1
  · cases h2
theorem iv_γh_q {h k : iv_H} (g : iv_γh h k) {i t n : Nat} {f : Nat → Option Nat} (e : h[i]? = some (.inr (t, n, .inr (.inr (.inr (.inr f)))))) : k[i]? = some (.inr (t, n, .inr (.inr (.inr (.inr f))))) := by
  obtain ⟨c, h1, h2⟩ := g.2 i _ e
  rcases h2 with ⟨-, rfl⟩ | ⟨t, n, f, q, h2, -⟩
  · exact h1
  · cases h2
theorem iv_γs_cats {ρ : Nat → Int32} : ∀ {a b : List Value}, iv_γs ρ a b → (b.map fun v => v.category) = a.map fun v => v.category
  | [], [], _ => rfl
  | a :: as, c :: cs, h => by rw [List.map_cons, List.map_cons, iv_γ_cat h.1, iv_γs_cats h.2]
  | [], _ :: _, h => absurd h (fun q => q)
  | _ :: _, [], h => absurd h (fun q => q)
theorem iv_br_m {b : Bool} {pc : Nat} {off : Int} {al al' : iv_L} {r r' : List Value} {o : iv_O} (e : iv_br b pc off al r = some o) : ∃ p, o = (p, al, r, none) ∧ iv_br b pc off al' r' = some (p, al', r', none) := by
  obtain ⟨t, h1, e1⟩ := Option.bind_eq_some_iff.mp e
  unfold iv_br
  rw [h1]
  cases b with
  | true => cases e1; exact ⟨t, rfl, rfl⟩
  | false => cases e1; exact ⟨pc + 3, rfl, rfl⟩
theorem iv_jp_m {pc : Nat} {off : Int} {al al' : iv_L} {r r' : List Value} {o : iv_O} (e : iv_jp pc off al r = some o) : ∃ p, o = (p, al, r, none) ∧ iv_jp pc off al' r' = some (p, al', r', none) := by
  obtain ⟨t, h1, e1⟩ := Option.bind_eq_some_iff.mp e
  unfold iv_jp
  rw [h1]
  cases e1
  exact ⟨t, rfl, rfl⟩
theorem iv_c1_m {ρ : Nat → Int32} {pc : Nat} {off : Int} {al al' : iv_L} {st st' : List Value} {f : Int32 → Bool} {o : iv_O} (e : iv_c1 pc off al st f = some o) (gl : iv_γl ρ al al') (gs : iv_γs ρ st st') : ∃ o', iv_c1 pc off al' st' f = some o' ∧ o'.1 = o.1 ∧ iv_γl ρ o.2.1 o'.2.1 ∧ iv_γs ρ o.2.2.1 o'.2.2.1 ∧ o'.2.2.2 = o.2.2.2 := by
  obtain ⟨x, r, rfl, e1⟩ := iv_i_s e
  obtain ⟨r', rfl, gs1⟩ := iv_γs_i gs
  obtain ⟨p, rfl, e2⟩ := iv_br_m (al' := al') (r' := r') e1
  exact ⟨_, e2, rfl, gl, gs1, rfl⟩
theorem iv_c2_m {ρ : Nat → Int32} {pc : Nat} {off : Int} {al al' : iv_L} {st st' : List Value} {f : Int32 → Int32 → Bool} {o : iv_O} (e : iv_c2 pc off al st f = some o) (gl : iv_γl ρ al al') (gs : iv_γs ρ st st') : ∃ o', iv_c2 pc off al' st' f = some o' ∧ o'.1 = o.1 ∧ iv_γl ρ o.2.1 o'.2.1 ∧ iv_γs ρ o.2.2.1 o'.2.2.1 ∧ o'.2.2.2 = o.2.2.2 := by
  obtain ⟨y, r1, rfl, e1⟩ := iv_i_s e
  obtain ⟨x, r, rfl, e2⟩ := iv_i_s e1
  obtain ⟨r1', rfl, gs1⟩ := iv_γs_i gs
  obtain ⟨r', rfl, gs2⟩ := iv_γs_i gs1
  obtain ⟨p, rfl, e3⟩ := iv_br_m (al' := al') (r' := r') e2
  exact ⟨_, e3, rfl, gl, gs2, rfl⟩
theorem iv_sl_m {mi i w : Nat} {S S' T : iv_O} (e : iv_sl mi i w S = some S') : iv_sl mi i w T = some T := by
  obtain ⟨h, -⟩ := iv_sl_s e
  unfold iv_sl
  rw [if_pos h]
theorem iv_ald_m {ρ : Nat → Int32} {ty : FieldType} {pc : Nat} {al al' : iv_L} {st st' : List Value} {h h' : iv_H} {o : iv_O} (e : iv_ald ty pc al st h = some o) (gl : iv_γl ρ al al') (gs : iv_γs ρ st st') (gh : iv_γh h h') : ∃ o', iv_ald ty pc al' st' h' = some o' ∧ o'.1 = o.1 ∧ iv_γl ρ o.2.1 o'.2.1 ∧ iv_γs ρ o.2.2.1 o'.2.2.1 ∧ o'.2.2.2 = o.2.2.2 := by
  obtain ⟨i, r1, rfl, e1⟩ := iv_i_s e
  obtain ⟨k, r, rfl, e2⟩ := iv_r_s e1
  obtain ⟨q, e3, e4⟩ := Option.bind_eq_some_iff.mp e2
  obtain ⟨r1', rfl, gs1⟩ := iv_γs_i gs
  obtain ⟨r', rfl, gs2⟩ := iv_γs_r gs1
  split at e4
  · rename_i hc
    obtain rfl := iv_pi_s e4
    have f1 : iv_ai h' k = some q := by unfold iv_ai; rw [iv_γh_i gh (iv_ai_s e3)]
    refine ⟨(pc + 1, al', .int (q.2.2 i.toNatClampNeg) :: r', none), ?_, rfl, gl, ⟨rfl, gs2⟩, rfl⟩
    show (iv_ai h' k).bind _ = _
    rw [f1]
    show (if _ then _ else _) = _
    rw [if_pos hc]
    rfl
  · cases e4
theorem iv_ast_m {ρ : Nat → Int32} {ty : FieldType} {pc : Nat} {al al' : iv_L} {st st' : List Value} {h h' : iv_H} {o : iv_O} (e : iv_ast ty pc al st h = some o) (gl : iv_γl ρ al al') (gs : iv_γs ρ st st') (gh : iv_γh h h') : ∃ o', iv_ast ty pc al' st' h' = some o' ∧ o'.1 = o.1 ∧ iv_γl ρ o.2.1 o'.2.1 ∧ iv_γs ρ o.2.2.1 o'.2.2.1 ∧ o'.2.2.2 = o.2.2.2 := by
  obtain ⟨x, r2, rfl, e0⟩ := iv_i_s e
  obtain ⟨i, r1, rfl, e1⟩ := iv_i_s e0
  obtain ⟨k, r, rfl, e2⟩ := iv_r_s e1
  obtain ⟨q, e3, e4⟩ := Option.bind_eq_some_iff.mp e2
  obtain ⟨r2', rfl, gs0⟩ := iv_γs_i gs
  obtain ⟨r1', rfl, gs1⟩ := iv_γs_i gs0
  obtain ⟨r', rfl, gs2⟩ := iv_γs_r gs1
  split at e4
  · rename_i hc
    cases e4
    have f1 : iv_ai h' k = some q := by unfold iv_ai; rw [iv_γh_i gh (iv_ai_s e3)]
    refine ⟨(pc + 1, al', r', some (some k, .inr (q.1, q.2.1, .inl (upd q.2.2 i.toNatClampNeg (vp_nar ty x))))), ?_, rfl, gl, gs2, rfl⟩
    show (iv_ai h' k).bind _ = _
    rw [f1]
    show (if _ then _ else _) = _
    rw [if_pos hc]
  · cases e4
/-- a byte or a boolean array, not both: the first that fits -/
theorem iv_ald_bz {pc : Nat} {al : iv_L} {st : List Value} {h : iv_H} {o : iv_O} (e : iv_ald .boolean pc al st h = some o) : iv_ald .byte pc al st h = none := by
  obtain ⟨i, k, r, t, n, f, rfl, f1, f2, f3, rfl⟩ := iv_ald_s e
  cases q : iv_ald .byte pc al (.int i :: .ref k :: r) h with
  | none => rfl
  | some o2 =>
    obtain ⟨i2, k2, r2, t2, n2, f2', e1, g1, g2, g3, -⟩ := iv_ald_s q
    cases e1
    rw [f1] at g1
    cases g1
    rw [f3] at g3
    cases g3
theorem iv_ast_bz {pc : Nat} {al : iv_L} {st : List Value} {h : iv_H} {o : iv_O} (e : iv_ast .boolean pc al st h = some o) : iv_ast .byte pc al st h = none := by
  obtain ⟨x, i, k, r, t, n, f, rfl, f1, f2, f3, rfl⟩ := iv_ast_s e
  cases q : iv_ast .byte pc al (.int x :: .int i :: .ref k :: r) h with
  | none => rfl
  | some o2 =>
    obtain ⟨x2, i2, k2, r2, t2, n2, f2', e1, g1, g2, g3, -⟩ := iv_ast_s q
    cases e1
    rw [f1] at g1
    cases g1
    rw [f3] at g3
    cases g3
theorem iv_γ_fv {ρ : Nat → Int32} {v : Value} (h : iv_fv v = true) : iv_γ ρ v v := by cases v <;> first | rfl | cases h
theorem iv_γ_ok {ρ : Nat → Int32} {ty : FieldType} {v c : Value} (h : iv_ok ty v = true) (g : iv_γ ρ v c) : c = v := by
  cases v with
  | float b => cases ty <;> cases h
  | double b => cases ty <;> cases h
  | _ => exact g
theorem iv_ok_fv {ty : FieldType} {v : Value} (h : iv_ok ty v = true) : iv_fv v = true := by
  cases v with
  | float b => cases ty <;> cases h
  | double b => cases ty <;> cases h
  | _ => rfl
def iv_hf (h : iv_H) : Prop := ∀ (k : Nat) (o : Nat × List Value), h[k]? = some (.inl o) → ∀ v ∈ o.2, iv_fv v = true
set_option maxHeartbeats 4000000 in
set_option maxRecDepth 20000 in
theorem iv_cm {ρ : Nat → Int32} {z : iv_Z} {mi pc : Nat} {op : Jvm.ClassFile.Instr} {al al' : iv_L} {st st' : List Value} {h h' : iv_H} {o : iv_O} (hop : iv_op none mi pc op al st h = some o) (gl : iv_γl ρ al al') (gs : iv_γs ρ st st') (gh : iv_γh h h') (hf : iv_hf h) :
    ∃ o', iv_op z mi pc op al' st' h' = some o' ∧ o'.1 = o.1 ∧ iv_γl ρ o.2.1 o'.2.1 ∧ iv_γs ρ o.2.2.1 o'.2.2.1 ∧ o'.2.2.2 = o.2.2.2 := by
  cases op with
  | iconst n =>
    obtain rfl := iv_pi_s hop
    exact ⟨_, rfl, rfl, gl, ⟨rfl, gs⟩, rfl⟩
  | bipush n =>
    obtain rfl := iv_pi_s hop
    exact ⟨_, rfl, rfl, gl, ⟨rfl, gs⟩, rfl⟩
  | sipush n =>
    obtain rfl := iv_pi_s hop
    exact ⟨_, rfl, rfl, gl, ⟨rfl, gs⟩, rfl⟩
  | lconst n =>
    obtain rfl := iv_pj_s hop
    exact ⟨_, rfl, rfl, gl, ⟨rfl, gs⟩, rfl⟩
  | ldc idx =>
    obtain ⟨x, e1, e2⟩ := Option.bind_eq_some_iff.mp hop
    obtain rfl := iv_pi_s e2
    refine ⟨(pc + 2, al', .int x :: st', none), ?_, rfl, gl, ⟨rfl, gs⟩, rfl⟩
    show (iv_lc (iv_kf mi) idx).bind _ = _
    rw [e1]
    rfl
  | ldc2_w idx =>
    obtain ⟨x, e1, e2⟩ := Option.bind_eq_some_iff.mp hop
    obtain rfl := iv_pj_s e2
    refine ⟨(pc + 3, al', .long x :: st', none), ?_, rfl, gl, ⟨rfl, gs⟩, rfl⟩
    show (iv_l2 (iv_kf mi) idx).bind _ = _
    rw [e1]
    rfl
  | iload_n k =>
    obtain ⟨x, e1, e2⟩ := iv_li_s hop
    obtain rfl := iv_pi_s e2
    obtain ⟨c, b1, b2⟩ := iv_γl_get gl e1
    have b2 : c = _ := b2
    subst b2
    refine ⟨(pc + 1, al', .int x :: st', none), ?_, rfl, gl, ⟨rfl, gs⟩, rfl⟩
    show iv_li al' (k : Nat) _ = _
    unfold iv_li
    rw [b1]
    rfl
  | iload k =>
    obtain ⟨x, e1, e2⟩ := iv_li_s hop
    obtain rfl := iv_pi_s e2
    obtain ⟨c, b1, b2⟩ := iv_γl_get gl e1
    have b2 : c = _ := b2
    subst b2
    refine ⟨(pc + 2, al', .int x :: st', none), ?_, rfl, gl, ⟨rfl, gs⟩, rfl⟩
    show iv_li al' k _ = _
    unfold iv_li
    rw [b1]
    rfl
  | lload_n k =>
    obtain ⟨x, e1, e2⟩ := iv_lj_s hop
    obtain rfl := iv_pj_s e2
    obtain ⟨c, b1, b2⟩ := iv_γl_get gl e1
    have b2 : c = _ := b2
    subst b2
    refine ⟨(pc + 1, al', .long x :: st', none), ?_, rfl, gl, ⟨rfl, gs⟩, rfl⟩
    show iv_lj al' (k : Nat) _ = _
    unfold iv_lj
    rw [b1]
    rfl
  | lload k =>
    obtain ⟨x, e1, e2⟩ := iv_lj_s hop
    obtain rfl := iv_pj_s e2
    obtain ⟨c, b1, b2⟩ := iv_γl_get gl e1
    have b2 : c = _ := b2
    subst b2
    refine ⟨(pc + 2, al', .long x :: st', none), ?_, rfl, gl, ⟨rfl, gs⟩, rfl⟩
    show iv_lj al' k _ = _
    unfold iv_lj
    rw [b1]
    rfl
  | aload_n k =>
    have hop : iv_la al (k : Nat) (fun x => some (pc + 1, al, x :: st, none)) = some o := hop
    obtain ⟨v, e1, hv, e2⟩ := iv_la_s hop
    cases e2
    obtain ⟨c, b1, b2⟩ := iv_γl_get gl e1
    have b2 : c = v := by rcases hv with ⟨k2, rfl⟩ | ⟨k2, rfl⟩ <;> exact b2
    subst b2
    refine ⟨(pc + 1, al', c :: st', none), ?_, rfl, gl, ⟨by rcases hv with ⟨k2, rfl⟩ | ⟨k2, rfl⟩ <;> rfl, gs⟩, rfl⟩
    show iv_la al' (k : Nat) (fun x => some (pc + 1, al', x :: st', none)) = _
    unfold iv_la
    rw [b1]
    rcases hv with ⟨k2, rfl⟩ | ⟨k2, rfl⟩ <;> rfl
  | aload k =>
    have hop : iv_la al k (fun x => some (pc + 2, al, x :: st, none)) = some o := hop
    obtain ⟨v, e1, hv, e2⟩ := iv_la_s hop
    cases e2
    obtain ⟨c, b1, b2⟩ := iv_γl_get gl e1
    have b2 : c = v := by rcases hv with ⟨k2, rfl⟩ | ⟨k2, rfl⟩ <;> exact b2
    subst b2
    refine ⟨(pc + 2, al', c :: st', none), ?_, rfl, gl, ⟨by rcases hv with ⟨k2, rfl⟩ | ⟨k2, rfl⟩ <;> rfl, gs⟩, rfl⟩
    show iv_la al' k (fun x => some (pc + 2, al', x :: st', none)) = _
    unfold iv_la
    rw [b1]
    rcases hv with ⟨k2, rfl⟩ | ⟨k2, rfl⟩ <;> rfl
  | istore_n k =>
    obtain ⟨x, r, rfl, e1⟩ := iv_i_s hop
    obtain ⟨r', rfl, gs1⟩ := iv_γs_i gs
    obtain ⟨hn, rfl⟩ := iv_sl_s e1
    exact ⟨_, iv_sl_m e1, rfl, iv_γl_s1 gl _ (show iv_γ ρ (.int x) (.int x) from rfl), gs1, rfl⟩
  | istore k =>
    obtain ⟨x, r, rfl, e1⟩ := iv_i_s hop
    obtain ⟨r', rfl, gs1⟩ := iv_γs_i gs
    obtain ⟨hn, rfl⟩ := iv_sl_s e1
    exact ⟨_, iv_sl_m e1, rfl, iv_γl_s1 gl _ (show iv_γ ρ (.int x) (.int x) from rfl), gs1, rfl⟩
  | lstore_n k =>
    obtain ⟨x, r, rfl, e1⟩ := iv_j_s hop
    obtain ⟨r', rfl, gs1⟩ := iv_γs_j gs
    obtain ⟨hn, rfl⟩ := iv_sl_s e1
    exact ⟨_, iv_sl_m e1, rfl, iv_γl_s2 gl _ (show iv_γ ρ (.long x) (.long x) from rfl), gs1, rfl⟩
  | lstore k =>
    obtain ⟨x, r, rfl, e1⟩ := iv_j_s hop
    obtain ⟨r', rfl, gs1⟩ := iv_γs_j gs
    obtain ⟨hn, rfl⟩ := iv_sl_s e1
    exact ⟨_, iv_sl_m e1, rfl, iv_γl_s2 gl _ (show iv_γ ρ (.long x) (.long x) from rfl), gs1, rfl⟩
  | astore_n k =>
    obtain ⟨x, r, rfl, e1⟩ := iv_r_s hop
    obtain ⟨r', rfl, gs1⟩ := iv_γs_r gs
    obtain ⟨hn, rfl⟩ := iv_sl_s e1
    exact ⟨_, iv_sl_m e1, rfl, iv_γl_s1 gl _ (show iv_γ ρ (.ref x) (.ref x) from rfl), gs1, rfl⟩
  | astore k =>
    obtain ⟨x, r, rfl, e1⟩ := iv_r_s hop
    obtain ⟨r', rfl, gs1⟩ := iv_γs_r gs
    obtain ⟨hn, rfl⟩ := iv_sl_s e1
    exact ⟨_, iv_sl_m e1, rfl, iv_γl_s1 gl _ (show iv_γ ρ (.ref x) (.ref x) from rfl), gs1, rfl⟩
  | iinc i n =>
    obtain ⟨x, e1, e2⟩ := iv_li_s hop
    obtain ⟨hn, rfl⟩ := iv_sl_s e2
    obtain ⟨c, b1, b2⟩ := iv_γl_get gl e1
    have b2 : c = _ := b2
    subst b2
    refine ⟨(pc + 3, iv_s1 al' i (.int (x + Int32.ofInt n)), st', none), ?_, rfl, iv_γl_s1 gl i (show iv_γ ρ (.int _) (.int _) from rfl), gs, rfl⟩
    show iv_li al' i _ = _
    unfold iv_li
    rw [b1]
    exact iv_sl_m e2
  | iadd =>
    obtain ⟨x, y, r, rfl, rfl⟩ := iv_ii_s hop
    obtain ⟨r1, rfl, gs1⟩ := iv_γs_i gs
    obtain ⟨r2, rfl, gs2⟩ := iv_γs_i gs1
    exact ⟨_, rfl, rfl, gl, ⟨rfl, gs2⟩, rfl⟩
  | isub =>
    obtain ⟨x, y, r, rfl, rfl⟩ := iv_ii_s hop
    obtain ⟨r1, rfl, gs1⟩ := iv_γs_i gs
    obtain ⟨r2, rfl, gs2⟩ := iv_γs_i gs1
    exact ⟨_, rfl, rfl, gl, ⟨rfl, gs2⟩, rfl⟩
  | imul =>
    obtain ⟨x, y, r, rfl, rfl⟩ := iv_ii_s hop
    obtain ⟨r1, rfl, gs1⟩ := iv_γs_i gs
    obtain ⟨r2, rfl, gs2⟩ := iv_γs_i gs1
    exact ⟨_, rfl, rfl, gl, ⟨rfl, gs2⟩, rfl⟩
  | iand =>
    obtain ⟨x, y, r, rfl, rfl⟩ := iv_ii_s hop
    obtain ⟨r1, rfl, gs1⟩ := iv_γs_i gs
    obtain ⟨r2, rfl, gs2⟩ := iv_γs_i gs1
    exact ⟨_, rfl, rfl, gl, ⟨rfl, gs2⟩, rfl⟩
  | ior =>
    obtain ⟨x, y, r, rfl, rfl⟩ := iv_ii_s hop
    obtain ⟨r1, rfl, gs1⟩ := iv_γs_i gs
    obtain ⟨r2, rfl, gs2⟩ := iv_γs_i gs1
    exact ⟨_, rfl, rfl, gl, ⟨rfl, gs2⟩, rfl⟩
  | ixor =>
    obtain ⟨x, y, r, rfl, rfl⟩ := iv_ii_s hop
    obtain ⟨r1, rfl, gs1⟩ := iv_γs_i gs
    obtain ⟨r2, rfl, gs2⟩ := iv_γs_i gs1
    exact ⟨_, rfl, rfl, gl, ⟨rfl, gs2⟩, rfl⟩
  | ishl =>
    obtain ⟨x, y, r, rfl, rfl⟩ := iv_ii_s hop
    obtain ⟨r1, rfl, gs1⟩ := iv_γs_i gs
    obtain ⟨r2, rfl, gs2⟩ := iv_γs_i gs1
    exact ⟨_, rfl, rfl, gl, ⟨rfl, gs2⟩, rfl⟩
  | ishr =>
    obtain ⟨x, y, r, rfl, rfl⟩ := iv_ii_s hop
    obtain ⟨r1, rfl, gs1⟩ := iv_γs_i gs
    obtain ⟨r2, rfl, gs2⟩ := iv_γs_i gs1
    exact ⟨_, rfl, rfl, gl, ⟨rfl, gs2⟩, rfl⟩
  | iushr =>
    obtain ⟨x, y, r, rfl, rfl⟩ := iv_ii_s hop
    obtain ⟨r1, rfl, gs1⟩ := iv_γs_i gs
    obtain ⟨r2, rfl, gs2⟩ := iv_γs_i gs1
    exact ⟨_, rfl, rfl, gl, ⟨rfl, gs2⟩, rfl⟩
  | ladd =>
    obtain ⟨x, y, r, rfl, rfl⟩ := iv_jj_s hop
    obtain ⟨r1, rfl, gs1⟩ := iv_γs_j gs
    obtain ⟨r2, rfl, gs2⟩ := iv_γs_j gs1
    exact ⟨_, rfl, rfl, gl, ⟨rfl, gs2⟩, rfl⟩
  | lsub =>
    obtain ⟨x, y, r, rfl, rfl⟩ := iv_jj_s hop
    obtain ⟨r1, rfl, gs1⟩ := iv_γs_j gs
    obtain ⟨r2, rfl, gs2⟩ := iv_γs_j gs1
    exact ⟨_, rfl, rfl, gl, ⟨rfl, gs2⟩, rfl⟩
  | lmul =>
    obtain ⟨x, y, r, rfl, rfl⟩ := iv_jj_s hop
    obtain ⟨r1, rfl, gs1⟩ := iv_γs_j gs
    obtain ⟨r2, rfl, gs2⟩ := iv_γs_j gs1
    exact ⟨_, rfl, rfl, gl, ⟨rfl, gs2⟩, rfl⟩
  | idiv =>
    obtain ⟨y, r1, rfl, e1⟩ := iv_i_s hop
    obtain ⟨x, r, rfl, e2⟩ := iv_i_s e1
    obtain ⟨r1', rfl, gs1⟩ := iv_γs_i gs
    obtain ⟨r2, rfl, gs2⟩ := iv_γs_i gs1
    split at e2
    · cases e2
    · rename_i hne
      obtain rfl := iv_pi_s e2
      refine ⟨(pc + 1, al', .int (x / y) :: r2, none), ?_, rfl, gl, ⟨rfl, gs2⟩, rfl⟩
      show (if y = 0 then none else _) = _
      rw [if_neg hne]
      rfl
  | irem =>
    obtain ⟨y, r1, rfl, e1⟩ := iv_i_s hop
    obtain ⟨x, r, rfl, e2⟩ := iv_i_s e1
    obtain ⟨r1', rfl, gs1⟩ := iv_γs_i gs
    obtain ⟨r2, rfl, gs2⟩ := iv_γs_i gs1
    split at e2
    · cases e2
    · rename_i hne
      obtain rfl := iv_pi_s e2
      refine ⟨(pc + 1, al', .int (x - x / y * y) :: r2, none), ?_, rfl, gl, ⟨rfl, gs2⟩, rfl⟩
      show (if y = 0 then none else _) = _
      rw [if_neg hne]
      rfl
  | ldiv =>
    obtain ⟨y, r1, rfl, e1⟩ := iv_j_s hop
    obtain ⟨x, r, rfl, e2⟩ := iv_j_s e1
    obtain ⟨r1', rfl, gs1⟩ := iv_γs_j gs
    obtain ⟨r2, rfl, gs2⟩ := iv_γs_j gs1
    split at e2
    · cases e2
    · rename_i hne
      obtain rfl := iv_pj_s e2
      refine ⟨(pc + 1, al', .long (x / y) :: r2, none), ?_, rfl, gl, ⟨rfl, gs2⟩, rfl⟩
      show (if y = 0 then none else _) = _
      rw [if_neg hne]
      rfl
  | lrem =>
    obtain ⟨y, r1, rfl, e1⟩ := iv_j_s hop
    obtain ⟨x, r, rfl, e2⟩ := iv_j_s e1
    obtain ⟨r1', rfl, gs1⟩ := iv_γs_j gs
    obtain ⟨r2, rfl, gs2⟩ := iv_γs_j gs1
    split at e2
    · cases e2
    · rename_i hne
      obtain rfl := iv_pj_s e2
      refine ⟨(pc + 1, al', .long (x - x / y * y) :: r2, none), ?_, rfl, gl, ⟨rfl, gs2⟩, rfl⟩
      show (if y = 0 then none else _) = _
      rw [if_neg hne]
      rfl
  | ineg =>
    obtain ⟨x, r, rfl, e1⟩ := iv_i_s hop
    obtain rfl := iv_pi_s e1
    obtain ⟨r1, rfl, gs1⟩ := iv_γs_i gs
    exact ⟨_, rfl, rfl, gl, ⟨rfl, gs1⟩, rfl⟩
  | lneg =>
    obtain ⟨x, r, rfl, e1⟩ := iv_j_s hop
    obtain rfl := iv_pj_s e1
    obtain ⟨r1, rfl, gs1⟩ := iv_γs_j gs
    exact ⟨_, rfl, rfl, gl, ⟨rfl, gs1⟩, rfl⟩
  | lcmp =>
    obtain ⟨y, r1, rfl, e1⟩ := iv_j_s hop
    obtain ⟨x, r, rfl, e2⟩ := iv_j_s e1
    obtain rfl := iv_pi_s e2
    obtain ⟨r1', rfl, gs1⟩ := iv_γs_j gs
    obtain ⟨r2, rfl, gs2⟩ := iv_γs_j gs1
    exact ⟨_, rfl, rfl, gl, ⟨rfl, gs2⟩, rfl⟩
  | i2l =>
    obtain ⟨x, r, rfl, e1⟩ := iv_i_s hop
    obtain rfl := iv_pj_s e1
    obtain ⟨r1, rfl, gs1⟩ := iv_γs_i gs
    exact ⟨_, rfl, rfl, gl, ⟨rfl, gs1⟩, rfl⟩
  | l2i =>
    obtain ⟨x, r, rfl, e1⟩ := iv_j_s hop
    obtain rfl := iv_pi_s e1
    obtain ⟨r1, rfl, gs1⟩ := iv_γs_j gs
    exact ⟨_, rfl, rfl, gl, ⟨rfl, gs1⟩, rfl⟩
  | i2b =>
    obtain ⟨x, r, rfl, e1⟩ := iv_i_s hop
    obtain rfl := iv_pi_s e1
    obtain ⟨r1, rfl, gs1⟩ := iv_γs_i gs
    exact ⟨_, rfl, rfl, gl, ⟨rfl, gs1⟩, rfl⟩
  | dup =>
    obtain ⟨v, r, rfl, hv, e1⟩ := iv_1_s hop
    cases e1
    obtain ⟨cv, q1, rfl, gv, gs1⟩ := iv_γs_c gs
    refine ⟨(pc + 1, al', cv :: cv :: q1, none), ?_, rfl, gl, ⟨gv, gv, gs1⟩, rfl⟩
    simp only [iv_op, iv_sem, iv_1, iv_γ_cat gv, hv, if_true]
  | pop =>
    obtain ⟨v, r, rfl, hv, e1⟩ := iv_1_s hop
    cases e1
    obtain ⟨cv, q1, rfl, gv, gs1⟩ := iv_γs_c gs
    refine ⟨(pc + 1, al', q1, none), ?_, rfl, gl, gs1, rfl⟩
    simp only [iv_op, iv_sem, iv_1, iv_γ_cat gv, hv, if_true]
  | dup_x1 =>
    obtain ⟨v, r1, rfl, hv, e1⟩ := iv_1_s hop
    obtain ⟨u, r, rfl, hu, e2⟩ := iv_1_s e1
    cases e2
    obtain ⟨cv, q1, rfl, gv, gs1⟩ := iv_γs_c gs
    obtain ⟨cu, q2, rfl, gu, gs2⟩ := iv_γs_c gs1
    refine ⟨(pc + 1, al', cv :: cu :: cv :: q2, none), ?_, rfl, gl, ⟨gv, gu, gv, gs2⟩, rfl⟩
    simp only [iv_op, iv_sem, iv_1, iv_γ_cat gv, hv, iv_γ_cat gu, hu, if_true]
  | dup_x2 =>
    obtain ⟨v, r1, rfl, hv, e1⟩ := iv_1_s hop
    obtain ⟨u, r2, rfl, hu, e2⟩ := iv_1_s e1
    obtain ⟨x, r, rfl, hx, e3⟩ := iv_1_s e2
    cases e3
    obtain ⟨cv, q1, rfl, gv, gs1⟩ := iv_γs_c gs
    obtain ⟨cu, q2, rfl, gu, gs2⟩ := iv_γs_c gs1
    obtain ⟨cx, q3, rfl, gx, gs3⟩ := iv_γs_c gs2
    refine ⟨(pc + 1, al', cv :: cu :: cx :: cv :: q3, none), ?_, rfl, gl, ⟨gv, gu, gx, gv, gs3⟩, rfl⟩
    simp only [iv_op, iv_sem, iv_1, iv_γ_cat gv, hv, iv_γ_cat gu, hu, iv_γ_cat gx, hx, if_true]
  | dup2 =>
    obtain ⟨v, r1, rfl, hv, e1⟩ := iv_1_s hop
    obtain ⟨u, r, rfl, hu, e2⟩ := iv_1_s e1
    cases e2
    obtain ⟨cv, q1, rfl, gv, gs1⟩ := iv_γs_c gs
    obtain ⟨cu, q2, rfl, gu, gs2⟩ := iv_γs_c gs1
    refine ⟨(pc + 1, al', cv :: cu :: cv :: cu :: q2, none), ?_, rfl, gl, ⟨gv, gu, gv, gu, gs2⟩, rfl⟩
    simp only [iv_op, iv_sem, iv_1, iv_γ_cat gv, hv, iv_γ_cat gu, hu, if_true]
  | goto off =>
    obtain ⟨p, rfl, e2⟩ := iv_jp_m (al' := al') (r' := st') hop
    exact ⟨_, e2, rfl, gl, gs, rfl⟩
  | ifCond cc off =>
    cases cc <;> exact iv_c1_m hop gl gs
  | if_icmp cc off =>
    cases cc <;> exact iv_c2_m hop gl gs
  | tableswitch dflt lo hi offs =>
    obtain ⟨x, r, rfl, e1⟩ := iv_i_s hop
    obtain ⟨r1, rfl, gs1⟩ := iv_γs_i gs
    split at e1
    · rename_i hc
      obtain ⟨p, rfl, e2⟩ := iv_jp_m (al' := al') (r' := r1) e1
      refine ⟨(p, al', r1, none), ?_, rfl, gl, gs1, rfl⟩
      show (if _ then _ else _) = _
      rw [if_pos hc]
      exact e2
    · rename_i hc
      obtain ⟨off, h1, e2⟩ := Option.bind_eq_some_iff.mp e1
      obtain ⟨p, rfl, e3⟩ := iv_jp_m (al' := al') (r' := r1) e2
      refine ⟨(p, al', r1, none), ?_, rfl, gl, gs1, rfl⟩
      show (if _ then _ else _) = _
      rw [if_neg hc, h1]
      exact e3
  | getfield idx =>
    obtain ⟨k, r, rfl, e1⟩ := iv_r_s hop
    obtain ⟨v, e2, e3⟩ := Option.bind_eq_some_iff.mp e1
    cases e3
    obtain ⟨r1, rfl, gs1⟩ := iv_γs_r gs
    obtain ⟨ci, j, fs, f1, f2, f3⟩ := iv_gf_s e2
    have f4 : iv_gf mi idx h' k = some v := by unfold iv_gf; rw [f1, iv_γh_o gh f2]; dsimp only; rw [if_pos rfl]; exact f3
    refine ⟨(pc + 3, al', v :: r1, none), ?_, rfl, gl, ⟨iv_γ_fv (hf k _ f2 v (List.mem_of_getElem? f3)), gs1⟩, rfl⟩
    show (iv_gf mi idx h' k).bind _ = _
    rw [f4]
    rfl
  | putfield idx =>
    obtain ⟨v, r1, rfl, e1⟩ := iv_1or2_s hop
    obtain ⟨k, r, rfl, e2⟩ := iv_r_s e1
    obtain ⟨q, e3, e4⟩ := Option.bind_eq_some_iff.mp e2
    cases e4
    obtain ⟨ci, j, fs, f1, f2, f3, f4, f5, rfl⟩ := iv_pf_s e3
    obtain ⟨c, r2, rfl, g1, gs1⟩ := iv_γs_c gs
    have g1 := iv_γ_ok f4 g1
    subst g1
    obtain ⟨r3, rfl, gs2⟩ := iv_γs_r gs1
    have f6 : iv_pf mi idx h' k c = some (some k, .inl (ci, fs.set j c)) := by unfold iv_pf; rw [f1, iv_γh_o gh f2]; dsimp only; rw [if_pos ⟨rfl, f3, f4, f5⟩]
    refine ⟨(pc + 3, al', r3, some (some k, .inl (ci, fs.set j c))), ?_, rfl, gl, gs2, rfl⟩
    show (iv_pf mi idx h' k c).bind _ = _
    rw [f6]
    rfl
  | new idx =>
    obtain ⟨ci, e1, e2⟩ := Option.bind_eq_some_iff.mp hop
    cases e2
    refine ⟨(pc + 3, al', .ref h.length :: st', some (none, .inl (ci, iv_df ci))), ?_, rfl, gl, ⟨rfl, gs⟩, rfl⟩
    show (iv_nc (iv_kf mi) idx).bind _ = _
    rw [e1, gh.1]
    rfl
  | newarray a =>
    obtain ⟨n, r, rfl, e1⟩ := iv_i_s hop
    obtain ⟨r1, rfl, gs1⟩ := iv_γs_i gs
    split at e1
    · rename_i hc
      cases e1
      refine ⟨(pc + 2, al', .ref h.length :: r1, some (none, .inr (iv_tn a, iv_a0 (iv_tn a) n.toNatClampNeg))), ?_, rfl, gl, ⟨rfl, gs1⟩, rfl⟩
      show (if _ then _ else _) = _
      rw [if_pos hc, gh.1]
    · cases e1
  | anewarray idx =>
    obtain ⟨n, r, rfl, e1⟩ := iv_i_s hop
    obtain ⟨r1, rfl, gs1⟩ := iv_γs_i gs
    obtain ⟨t, e2, e3⟩ := Option.bind_eq_some_iff.mp e1
    split at e3
    · rename_i hc
      cases e3
      refine ⟨(pc + 3, al', .ref h.length :: r1, some (none, .inr (t, n.toNatClampNeg, .inr (.inr (.inr (.inr (fun _ => none))))))), ?_, rfl, gl, ⟨rfl, gs1⟩, rfl⟩
      show (iv_ac (iv_kf mi) idx).bind _ = _
      rw [e2]
      show (if _ then _ else _) = _
      rw [if_pos hc, gh.1]
    · cases e3
  | arraylength =>
    rcases iv_alen_s hop with ⟨k, r, a, rfl, f1, ⟨ty, f2⟩, rfl⟩ | ⟨k, r, q, rfl, hz, rfl⟩
    · obtain ⟨r1, rfl, gs1⟩ := iv_γs_r gs
      obtain ⟨c, h1, h2⟩ := gh.2 k _ f1
      refine ⟨(pc + 1, al', .int (Int32.ofNat a.2.1) :: r1, none), ?_, rfl, gl, ⟨rfl, gs1⟩, rfl⟩
      rcases h2 with ⟨-, rfl⟩ | ⟨t, n, f, g, h2, rfl⟩
      · simp only [iv_op, iv_sem, h1, f2, Option.isSome_some, if_true]
        rfl
      · cases h2
        simp only [iv_op, iv_sem, h1, f2, Option.isSome_some, if_true]
        rfl
    · cases hz
  | iaload =>
    rcases iv_iald_s hop with ⟨i, k, r, q, rfl, hz, hin, rfl⟩ | hop2
    · cases hz
    · obtain ⟨o1, a1, a2⟩ := iv_ald_m hop2 gl gs gh
      obtain ⟨i, r1, rfl, e1⟩ := iv_i_s hop2
      obtain ⟨k, r, rfl, e2⟩ := iv_r_s e1
      obtain ⟨r1', rfl, gs1⟩ := iv_γs_i gs
      obtain ⟨r', rfl, gs2⟩ := iv_γs_r gs1
      exact ⟨o1, a1, a2⟩
  | baload =>
    rcases iv_bald_s hop with hop2 | hop2
    · obtain ⟨o1, a1, a2⟩ := iv_ald_m hop2 gl gs gh
      refine ⟨o1, ?_, a2⟩
      show (match iv_ald .byte pc al' st' h' with
        | some S => some S
        | none => iv_ald .boolean pc al' st' h') = _
      rw [a1]
    · obtain ⟨o1, a1, a2⟩ := iv_ald_m hop2 gl gs gh
      refine ⟨o1, ?_, a2⟩
      show (match iv_ald .byte pc al' st' h' with
        | some S => some S
        | none => iv_ald .boolean pc al' st' h') = _
      rw [iv_ald_bz a1]
      exact a1
  | bastore =>
    rcases iv_bast_s hop with hop2 | hop2
    · obtain ⟨o1, a1, a2⟩ := iv_ast_m hop2 gl gs gh
      refine ⟨o1, ?_, a2⟩
      show (match iv_ast .byte pc al' st' h' with
        | some S => some S
        | none => iv_ast .boolean pc al' st' h') = _
      rw [a1]
    · obtain ⟨o1, a1, a2⟩ := iv_ast_m hop2 gl gs gh
      refine ⟨o1, ?_, a2⟩
      show (match iv_ast .byte pc al' st' h' with
        | some S => some S
        | none => iv_ast .boolean pc al' st' h') = _
      rw [iv_ast_bz a1]
      exact a1
  | iastore =>
    exact iv_ast_m hop gl gs gh
  | laload =>
    obtain ⟨i, r1, rfl, e1⟩ := iv_i_s hop
    obtain ⟨k, r, rfl, e2⟩ := iv_r_s e1
    obtain ⟨q, e3, e4⟩ := Option.bind_eq_some_iff.mp e2
    obtain ⟨r1', rfl, gs1⟩ := iv_γs_i gs
    obtain ⟨r', rfl, gs2⟩ := iv_γs_r gs1
    split at e4
    · rename_i hc
      obtain rfl := iv_pj_s e4
      have f1 : iv_aj h' k = some q := by unfold iv_aj; rw [iv_γh_j gh (iv_aj_s e3)]
      refine ⟨(pc + 1, al', .long (q.2.2 i.toNatClampNeg) :: r', none), ?_, rfl, gl, ⟨rfl, gs2⟩, rfl⟩
      show (iv_aj h' k).bind _ = _
      rw [f1]
      show (if _ then _ else _) = _
      rw [if_pos hc]
      rfl
    · cases e4
  | lastore =>
    obtain ⟨x, r2, rfl, e0⟩ := iv_j_s hop
    obtain ⟨i, r1, rfl, e1⟩ := iv_i_s e0
    obtain ⟨k, r, rfl, e2⟩ := iv_r_s e1
    obtain ⟨q, e3, e4⟩ := Option.bind_eq_some_iff.mp e2
    obtain ⟨r2', rfl, gs0⟩ := iv_γs_j gs
    obtain ⟨r1', rfl, gs1⟩ := iv_γs_i gs0
    obtain ⟨r', rfl, gs2⟩ := iv_γs_r gs1
    split at e4
    · rename_i hc
      cases e4
      have f1 : iv_aj h' k = some q := by unfold iv_aj; rw [iv_γh_j gh (iv_aj_s e3)]
      refine ⟨(pc + 1, al', r', some (some k, .inr (q.1, q.2.1, .inr (.inl (vp_updL q.2.2 i.toNatClampNeg x))))), ?_, rfl, gl, gs2, rfl⟩
      show (iv_aj h' k).bind _ = _
      rw [f1]
      show (if _ then _ else _) = _
      rw [if_pos hc]
    · cases e4
  | aaload =>
    obtain ⟨i, r1, rfl, e1⟩ := iv_i_s hop
    obtain ⟨k, r, rfl, e2⟩ := iv_r_s e1
    obtain ⟨q, e3, e4⟩ := Option.bind_eq_some_iff.mp e2
    obtain ⟨r1', rfl, gs1⟩ := iv_γs_i gs
    obtain ⟨r', rfl, gs2⟩ := iv_γs_r gs1
    split at e4
    · rename_i hc
      split at e4
      · rename_i b hb
        cases e4
        have f1 : iv_aq h' k = some q := by unfold iv_aq; rw [iv_γh_q gh (iv_aq_s e3)]
        refine ⟨(pc + 1, al', .ref b :: r', none), ?_, rfl, gl, ⟨rfl, gs2⟩, rfl⟩
        show (iv_aq h' k).bind _ = _
        rw [f1]
        show (if _ then _ else _) = _
        rw [if_pos hc, hb]
      · cases e4
    · cases e4
  | aastore =>
    obtain ⟨b, r2, rfl, e0⟩ := iv_r_s hop
    obtain ⟨i, r1, rfl, e1⟩ := iv_i_s e0
    obtain ⟨k, r, rfl, e2⟩ := iv_r_s e1
    obtain ⟨q, e3, e4⟩ := Option.bind_eq_some_iff.mp e2
    obtain ⟨r2', rfl, gs0⟩ := iv_γs_r gs
    obtain ⟨r1', rfl, gs1⟩ := iv_γs_i gs0
    obtain ⟨r', rfl, gs2⟩ := iv_γs_r gs1
    split at e4
    · rename_i hc
      cases e4
      have f1 : iv_aq h' k = some q := by unfold iv_aq; rw [iv_γh_q gh (iv_aq_s e3)]
      obtain ⟨ci, fs, rr, g1, g2, g3⟩ := iv_qc_s hc.2
      have f2 : iv_qc h' q.1 b = true := by unfold iv_qc; rw [iv_γh_o gh g1]; dsimp only; rw [g2]; exact decide_eq_true g3
      refine ⟨(pc + 1, al', r', some (some k, .inr (q.1, q.2.1, .inr (.inr (.inr (.inr (va_up q.2.2 i.toNatClampNeg (some b)))))))), ?_, rfl, gl, gs2, rfl⟩
      show (iv_aq h' k).bind _ = _
      rw [f1]
      show (if _ then _ else _) = _
      rw [if_pos ⟨hc.1, f2⟩]
    · cases e4
  | invokespecial idx =>
    obtain ⟨h1, k, r, rfl, h8, rfl⟩ := iv_oi_s hop
    obtain ⟨r1, rfl, gs1⟩ := iv_γs_r gs
    refine ⟨(pc + 3, al', r1, none), ?_, rfl, gl, gs1, rfl⟩
    show (if _ then _ else _) = _
    rw [if_pos h1]
    show (if _ then _ else _) = _
    rw [if_pos (by rw [iv_γs_cats gs1]; exact h8)]
  | invokestatic idx =>
    have hop0 := hop
    rcases iv_cpy_s hop with ⟨h1, n, dp, b, sp, a, r, q, u, rfl, f1, f2, z1, z2, z3, z4, z5, z6, z7, z8, rfl⟩ | ⟨h0, h1, y, x, r, rfl, h8, rfl⟩ | ⟨h0, h2, h1, y, x, r, rfl, h8, rfl⟩
    · obtain ⟨r1, rfl, gs1⟩ := iv_γs_i gs
      obtain ⟨r2, rfl, gs2⟩ := iv_γs_i gs1
      obtain ⟨r3, rfl, gs3⟩ := iv_γs_r gs2
      obtain ⟨r4, rfl, gs4⟩ := iv_γs_i gs3
      obtain ⟨r5, rfl, gs5⟩ := iv_γs_r gs4
      have k1 : iv_ai h' a = some q := by unfold iv_ai; rw [iv_γh_i gh f1]
      have k2 : iv_ai h' b = some u := by unfold iv_ai; rw [iv_γh_i gh f2]
      refine ⟨(pc + 3, al', r5, some (some b, .inr (u.1, u.2.1, .inl (va_cpy q.2.2 u.2.2 sp.toNatClampNeg dp.toNatClampNeg n.toNatClampNeg)))), ?_, rfl, gl, gs5, rfl⟩
      show (if _ then _ else _) = _
      rw [if_pos h1]
      show (iv_ai h' a).bind _ = _
      rw [k1]
      show (iv_ai h' b).bind _ = _
      rw [k2]
      show (if _ then _ else _) = _
      rw [if_pos ⟨Int32.not_lt.mp z1, Int32.not_lt.mp z2, Int32.not_lt.mp z3, z4, z5, decide_eq_true z6, decide_eq_true z7, by rw [iv_γs_cats gs5]; exact z8⟩]
    · obtain ⟨r1, rfl, gs1⟩ := iv_γs_i gs
      obtain ⟨r2, rfl, gs2⟩ := iv_γs_i gs1
      refine ⟨(pc + 3, al', .int (if y < x then y else x) :: r2, none), ?_, rfl, gl, ⟨rfl, gs2⟩, rfl⟩
      show (if _ then _ else _) = _
      rw [if_neg h0]
      show (if _ then _ else _) = _
      rw [if_pos h1]
      show (if _ then _ else _) = _
      exact (if_pos (by rw [iv_γs_cats gs2]; exact h8)).trans rfl
    · obtain ⟨r1, rfl, gs1⟩ := iv_γs_i gs
      obtain ⟨r2, rfl, gs2⟩ := iv_γs_i gs1
      refine ⟨(pc + 3, al', .int (if x < y then y else x) :: r2, none), ?_, rfl, gl, ⟨rfl, gs2⟩, rfl⟩
      show (if _ then _ else _) = _
      rw [if_neg h0]
      show (if _ then _ else _) = _
      rw [if_neg h2]
      show (if _ then _ else _) = _
      rw [if_pos h1]
      show (if _ then _ else _) = _
      exact (if_pos (by rw [iv_γs_cats gs2]; exact h8)).trans rfl
  | lookupswitch dflt ps =>
    obtain ⟨x, r, rfl, e1⟩ := iv_i_s hop
    obtain ⟨r1, rfl, gs1⟩ := iv_γs_i gs
    split at e1
    · rename_i hc
      obtain ⟨p, rfl, e2⟩ := iv_jp_m (al' := al') (r' := r1) e1
      refine ⟨(p, al', r1, none), ?_, rfl, gl, gs1, rfl⟩
      show (if _ then _ else _) = _
      rw [if_pos hc]
      exact e2
    · cases e1
  | _ =>
    have hop : (none : Option iv_O) = some o := hop
    cases hop
