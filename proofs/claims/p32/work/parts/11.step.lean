/-! ONE INSTRUCTION: what the interpreter does, the machine does -/
theorem iv_fA {a : Jvm.ClassFile.ArrayType} (h : iv_tn a < 4) : Cond.arrayClass (newarray.typeOf a) ∈ iv_Wd ∧ iv_ty[iv_tn a]? = some (newarray.typeOf a) ∧ (∀ (n : Nat) (cA : ClassId), vp_cell cA (iv_a0 (iv_tn a) n) = arrV cA n (fun _ => defaultValue (newarray.typeOf a))) ∧ (∀ n : Nat, n ≤ 60000000 → n * componentBytes (newarray.typeOf a) ≤ 536870912) := by
  obtain ⟨w1, w2, w3, w4⟩ := iv_ckA_all
  cases a with
  | int => exact ⟨iv_wo_s w1, rfl, fun n cA => rfl, fun n hn => by show n * 4 ≤ _; omega⟩
  | long => exact ⟨iv_wo_s w2, rfl, fun n cA => rfl, fun n hn => by show n * 8 ≤ _; omega⟩
  | boolean => exact ⟨iv_wo_s w3, rfl, fun n cA => rfl, fun n hn => by show n * 1 ≤ _; omega⟩
  | byte => exact ⟨iv_wo_s w4, rfl, fun n cA => rfl, fun n hn => by show n * 1 ≤ _; omega⟩
  | _ => exact absurd h (by decide)
theorem iv_df_v {v : Value} (h : iv_nrv v = true) (ad : iv_A) : iv_v ad v = v := by cases v <;> first | rfl | cases h
theorem iv_df_r {v : Value} (h : iv_nrv v = true) (k : Nat) : v ≠ .ref k := by rintro rfl; cases h
def iv_tys (cO : Nat → ClassId) : List (ClassId × FieldType) := iv_ty.mapIdx (fun i ty => (cO i, ty))
theorem iv_tys_get {cO : Nat → ClassId} {t : Nat} {ty : FieldType} (h : iv_ty[t]? = some ty) : (iv_tys cO)[t]? = some (cO t, ty) := by
  unfold iv_tys
  rw [List.getElem?_mapIdx, h]
  rfl
/-- arrays of rows -/
def va_AOA (t : FieldType) (U : State) : Prop := (Cond.arrayOver (.array t)).before #[] U = true
theorem va_AOA.use {t : FieldType} {A : Array Value} {U : State} (h : va_AOA t U) : (Cond.arrayOver (.array t)).before A U = true := h
theorem va_AOA.moved {t : FieldType} {u U : State} (hvm : u.vm.Alike U.vm) (h : va_AOA t u) : va_AOA t U := by
  exact arrayOver_alikeB hvm h
def iv_K (D : va_G) (cO : Nat → ClassId) (U : State) : Prop := va_K D iv_cl (iv_tys cO) U ∧ (∀ C ∈ iv_ao, va_AO C U) ∧ (∀ q ∈ iv_nw, va_Nw (.methodLinkNest q.1 q.2.1 q.2.2.1 q.2.2.2) U) ∧ (∀ q ∈ iv_nf, va_Nw (.fieldLinkNest q.1 q.2.1 q.2.2.1 q.2.2.2.1 q.2.2.2.2.1 q.2.2.2.2.2) U) ∧ va_AOA .int U ∧ va_Nw (.castable "[I" "java/lang/Cloneable") U ∧ va_Nw (.castable "[B" "java/lang/Cloneable") U
theorem iv_K.warm {D : va_G} {cO : Nat → ClassId} {s U : State} (hW : s.WarmedH U.vm) (h : iv_K D cO s) : iv_K D cO U := ⟨va_K.moved hW.alike h.1, fun C hC => (h.2.1 C hC).moved hW.alike, fun q hq => va_Nw.warmM hW (h.2.2.1 q hq), fun q hq => va_Nw.warmF hW (h.2.2.2.1 q hq), h.2.2.2.2.1.moved hW.alike, va_Nw.warmC hW h.2.2.2.2.2.1, va_Nw.warmC hW h.2.2.2.2.2.2⟩
theorem iv_K.blind {D : va_G} {cO : Nat → ClassId} {a : Array Value} {U : State} {g : JFrame} {mk : MethodId} (h : iv_K D cO U) : iv_K D cO (U.calling g mk a) := ⟨va_K.moved (u := U) (U := U.calling g mk a) (Vm.Alike.refl U.vm) h.1, fun C hC => va_AO.moved (u := U) (U := U.calling g mk a) (Vm.Alike.refl U.vm) (h.2.1 C hC), fun q hq => va_Nw.same (U := U.calling g mk a) rfl rfl (h.2.2.1 q hq), fun q hq => va_Nw.same (U := U.calling g mk a) rfl rfl (h.2.2.2.1 q hq), va_AOA.moved (u := U) (U := U.calling g mk a) (Vm.Alike.refl U.vm) h.2.2.2.2.1, va_Nw.same (U := U.calling g mk a) rfl rfl h.2.2.2.2.2.1, va_Nw.same (U := U.calling g mk a) rfl rfl h.2.2.2.2.2.2⟩
/-! THE READ-ONLY THINGS in the machine -/
def iv_rv (ro : Nat → Option Nat) (v : Value) : Value := match v with
  | .retAddr k => va_rf (ro k)
  | w => w
theorem iv_rv_v {ad : iv_A} {v : Value} (h : ∀ q, v ≠ .ref q) : iv_v ad v = iv_rv ad.2 v := by
  cases v with
  | ref k => exact absurd rfl (h k)
  | _ => rfl
def iv_Er (ro : Nat → Option Nat) (A : Nat → Prop) (U : State) (H : Heap) (k : Nat) (c : iv_C) : Prop := ∃ a, ro k = some a ∧ match c with
  | .inl o => ∃ (C : String) (T : u_T) (N : Nat), iv_cl[o.1]? = some (C, T, N) ∧ va_O C a A U H ∧ ∀ (j : Nat) (v : Value), o.2[j]? = some v → (∀ q, v ≠ .ref q) ∧ va_OF (T j).1 (T j).2.1 (T j).2.2.1 (iv_rv ro v) a A U H
  | .inr (t, n, .inl f) => ∃ ty, iv_ty[t]? = some ty ∧ va_T ty a n (fun j => .int (f j)) A U H ∧ (t = 3 → ∀ j, iv_bt (f j))
  | _ => False
def iv_sv (k : Nat) : Value := match k with
  | 0 => .int 1
  | 1 => .retAddr 1
  | 2 => .retAddr 2
  | _ => .retAddr 100
/-- the environment -/
def iv_En (z : iv_Z) (ro : Nat → Option Nat) (A : Nat → Prop) (U : State) (H : Heap) : Prop := (∀ k c, z k = some c → iv_Er ro A U H k c) ∧ (∀ k, va_Z (iv_sn k).1 (iv_sn k).2.1 (iv_sn k).2.2 (iv_rv ro (iv_sv k)) A U H) ∧ ∀ f i k, iv_ls f i = some k → ∃ (a : Nat) (tx : String), ro k = some a ∧ vk_R (iv_cn f) i tx a U
theorem iv_Er.kept {ro : Nat → Option Nat} {A : Nat → Prop} {U : State} {H H1 : Heap} {k : Nat} {c : iv_C} (h : iv_Er ro A U H k c) (hq : ∀ a : Nat, a < H.size → ¬ A a → H1[a]? = H[a]?) : iv_Er ro A U H1 k c := by
  obtain ⟨a, h1, h2⟩ := h
  refine ⟨a, h1, ?_⟩
  obtain o | ⟨t, n, f | f | f | f | f⟩ := c
  · obtain ⟨C, T, N, g1, g2, g3⟩ := h2
    exact ⟨C, T, N, g1, g2.kept hq, fun j v hv => ⟨(g3 j v hv).1, (g3 j v hv).2.kept hq⟩⟩
  · obtain ⟨ty, g1, g2, g3⟩ := h2
    exact ⟨ty, g1, g2.kept hq, g3⟩
  · exact h2
  · exact h2
  · exact h2
  · exact h2
theorem iv_Er.moved {ro : Nat → Option Nat} {A : Nat → Prop} {u U : State} {H : Heap} {k : Nat} {c : iv_C} (hvm : u.vm.Alike U.vm) (h : iv_Er ro A u H k c) : iv_Er ro A U H k c := by
  obtain ⟨a, h1, h2⟩ := h
  refine ⟨a, h1, ?_⟩
  obtain o | ⟨t, n, f | f | f | f | f⟩ := c
  · obtain ⟨C, T, N, g1, g2, g3⟩ := h2
    exact ⟨C, T, N, g1, va_O.moved hvm g2, fun j v hv => ⟨(g3 j v hv).1, va_OF.moved hvm (g3 j v hv).2⟩⟩
  · obtain ⟨ty, g1, g2, g3⟩ := h2
    exact ⟨ty, g1, va_T.moved hvm g2, g3⟩
  · exact h2
  · exact h2
  · exact h2
  · exact h2
theorem iv_Er.narrow {ro : Nat → Option Nat} {A B : Nat → Prop} {U : State} {H : Heap} {k : Nat} {c : iv_C} (h : iv_Er ro A U H k c) (hAB : ∀ q, B q → A q) : iv_Er ro B U H k c := by
  obtain ⟨a, h1, h2⟩ := h
  refine ⟨a, h1, ?_⟩
  obtain o | ⟨t, n, f | f | f | f | f⟩ := c
  · obtain ⟨C, T, N, g1, g2, g3⟩ := h2
    exact ⟨C, T, N, g1, g2.narrow hAB, fun j v hv => ⟨(g3 j v hv).1, (g3 j v hv).2.narrow hAB⟩⟩
  · obtain ⟨ty, g1, g2, g3⟩ := h2
    exact ⟨ty, g1, g2.narrow hAB, g3⟩
  · exact h2
  · exact h2
  · exact h2
  · exact h2
theorem iv_En.kept {z : iv_Z} {ro : Nat → Option Nat} {A : Nat → Prop} {U : State} {H H1 : Heap} (h : iv_En z ro A U H) (hq : ∀ a : Nat, a < H.size → ¬ A a → H1[a]? = H[a]?) : iv_En z ro A U H1 := ⟨fun k c e => (h.1 k c e).kept hq, fun k => (h.2.1 k).kept hq, h.2.2⟩
theorem iv_En.narrow {z : iv_Z} {ro : Nat → Option Nat} {A B : Nat → Prop} {U : State} {H : Heap} (h : iv_En z ro A U H) (hAB : ∀ q, B q → A q) : iv_En z ro B U H := ⟨fun k c e => (h.1 k c e).narrow hAB, fun k => (h.2.1 k).narrow hAB, h.2.2⟩
theorem iv_En.warm {z : iv_Z} {ro : Nat → Option Nat} {A : Nat → Prop} {s U : State} {H : Heap} (hW : s.WarmedH U.vm) (h : iv_En z ro A s H) : iv_En z ro A U H := ⟨fun k c e => (h.1 k c e).moved hW.alike, fun k => va_Z.moved hW.alike (h.2.1 k), fun f i k e => by
  obtain ⟨a, tx, h1, h2⟩ := h.2.2 f i k e
  exact ⟨a, tx, h1, vk_R.warm hW h2⟩⟩
theorem iv_En.blind {z : iv_Z} {ro : Nat → Option Nat} {A : Nat → Prop} {U : State} {H : Heap} {a : Array Value} {g : JFrame} {mk : MethodId} (h : iv_En z ro A U H) : iv_En z ro A (U.calling g mk a) H := ⟨fun k c e => iv_Er.moved (u := U) (U := U.calling g mk a) (Vm.Alike.refl U.vm) (h.1 k c e), fun k => va_Z.moved (u := U) (U := U.calling g mk a) (Vm.Alike.refl U.vm) (h.2.1 k), fun f i k e => by
  obtain ⟨b, tx, h1, h2⟩ := h.2.2 f i k e
  exact ⟨b, tx, h1, vk_R.same (U := U.calling g mk a) rfl h2⟩⟩
theorem iv_v_ra {ad : iv_A} {k a : Nat} (h : ad.2 k = some a) : iv_v ad (.retAddr k) = .ref a := by
  show va_rf (ad.2 k) = _
  rw [h]
  rfl
theorem iv_v_rn {ad : iv_A} {k : Nat} (h : ad.2 k = none) : iv_v ad (.retAddr k) = .null := by
  show va_rf (ad.2 k) = _
  rw [h]
  rfl
theorem iv_En_i {z : iv_Z} {ro : Nat → Option Nat} {A : Nat → Prop} {U : State} {H : Heap} (h : iv_En z ro A U H) {k : Nat} {q : Nat × Nat × (Nat → Int32)} (e : iv_zi z k = some q) : ∃ (a : Nat) (ty : FieldType), ro k = some a ∧ iv_ty[q.1]? = some ty ∧ va_T ty a q.2.1 (fun j => .int (q.2.2 j)) A U H ∧ (q.1 = 3 → ∀ j, iv_bt (q.2.2 j)) := by
  obtain ⟨a, h1, ty, h2, h3⟩ := h.1 k _ (iv_zi_s e)
  exact ⟨a, ty, h1, h2, h3⟩
theorem iv_RA_one {U : State} {c1 c2 : ClassId} {ty : FieldType} (h1 : va_RA U c1 ty) (h2 : va_RA U c2 ty) : c1 = c2 := by
  cases ty with
  | object C =>
    obtain ⟨_, _, _, _, _, a⟩ := h1
    obtain ⟨_, _, _, _, _, b⟩ := h2
    exact Option.some.inj (a.symm.trans b)
  | _ => exact Option.some.inj ((show U.vm.findClass _ = some c1 from h1).symm.trans h2)
theorem iv_K_new {D : va_G} {cO : Nat → ClassId} {U : State} {cA : ClassId} {t : Nat} {ty : FieldType} (h : iv_K D cO U) (ht : iv_ty[t]? = some ty) (h2 : va_K D iv_cl (iv_tys cO ++ [(cA, ty)]) U) : cA = cO t := by
  have a := (h.1.2 t _ (iv_tys_get ht)).2
  have b := (h2.2 (iv_tys cO).length (cA, ty) (by simp)).2
  exact (iv_RA_one a b).symm
theorem iv_ok_nf {ty : FieldType} {v : Value} (h : iv_ok ty v = true) (ad : iv_A) : narrow ty (iv_v ad v) = iv_v ad v ∧ fits ty (iv_v ad v) = true := by
  unfold iv_ok at h
  split at h
  · exact ⟨rfl, rfl⟩
  · exact ⟨rfl, rfl⟩
  · simp only [Bool.or_eq_true, decide_eq_true_eq] at h
    rcases h with rfl | rfl <;> exact ⟨rfl, rfl⟩
  · rename_i x
    have e := of_decide_eq_true h
    have f := pk_fb x
    rw [e] at f
    exact ⟨congrArg Value.int e, f⟩
  · rename_i x
    simp only [Bool.and_eq_true, decide_eq_true_eq] at h
    refine ⟨congrArg Value.int h.1, ?_⟩
    show (decide (0 ≤ x) && decide (x ≤ 65535)) = true
    rw [decide_eq_true h.2.1, decide_eq_true h.2.2]
    rfl
  · exact ⟨rfl, rfl⟩
  · exact ⟨rfl, rfl⟩
  · cases h
/-- the method's own facts -/
def iv_X (D : va_G) (cO : Nat → ClassId) (p : Program) (s : State) (m : MethodId) (args : Array Value) (meth : Method) (c : Code) (mi : Nat) : Prop :=
  p.tables.exec = Jvm.exec ∧ c.code = iv_by mi ∧ c.maxLocals = iv_mx mi ∧ s.vm.findClass (iv_cn (iv_kf mi)) = some m.cls ∧ (∀ w ∈ iv_Wd, w.before args s = true) ∧ (iv_ini mi = true → meth.name = "<init>") ∧ iv_K D cO s
/-- the heap and the locals are as the interpreter has them -/
def iv_I (D : va_G) (cO : Nat → ClassId) (A : Nat → Prop) (H0 : Heap) (mi : Nat) (ad : iv_A) (al : iv_L) (st : List Value) (h : iv_H) (H : Heap) (locs : List Loc) (ls : Array Slot) : Prop :=
  va_P D iv_cl (iv_w ad cO h) H ∧ va_D A (iv_w ad cO h) ∧ va_S A H0 H locs ∧ lv_has ls (iv_mx mi) (iv_ll ad al) ∧ iv_ga h.length al ∧ iv_gl h.length st ∧ iv_gh h.length h
theorem iv_d1 {mi pc : Nat} {op : Jvm.ClassFile.Instr} (h : iv_cd mi pc = some op) (e : iv_n op = 1) : decode (iv_by mi) pc = .ok (op, 1) := by
  rw [← e]; exact iv_dq h (by rw [e]; decide)
theorem iv_d2 {mi pc : Nat} {op : Jvm.ClassFile.Instr} (h : iv_cd mi pc = some op) (e : iv_n op = 2) : decode (iv_by mi) pc = .ok (op, 2) := by
  rw [← e]; exact iv_dq h (by rw [e]; decide)
theorem iv_d4 {mi pc : Nat} {op : Jvm.ClassFile.Instr} (h : iv_cd mi pc = some op) (e : iv_n op = 4) : decode (iv_by mi) pc = .ok (op, 4) := by
  rw [← e]; exact iv_dq h (by rw [e]; decide)
theorem iv_d3 {mi pc : Nat} {op : Jvm.ClassFile.Instr} (h : iv_cd mi pc = some op) (e : iv_n op = 3) : decode (iv_by mi) pc = .ok (op, 3) := by
  rw [← e]; exact iv_dq h (by rw [e]; decide)
theorem iv_ifn_s {z : iv_Z} {mi pc : Nat} {off : Int} {al : iv_L} {st : List Value} {h : iv_H} {o : iv_O} (e : iv_op z mi pc (.ifnull off) al st h = some o) : (∃ k r, st = .ref k :: r ∧ o = (pc + 3, al, r, none)) ∨ (∃ k r, st = .retAddr k :: r ∧ (z k).isSome = true ∧ o = (pc + 3, al, r, none)) ∨ ∃ r t, st = .null :: r ∧ (pc : Int) + off = ((t : Nat) : Int) ∧ o = (t, al, r, none) := by
  simp only [iv_op, iv_sem] at e
  split at e
  · exact Or.inl ⟨_, _, rfl, (Option.some.inj e).symm⟩
  · split at e
    · exact Or.inr (Or.inl ⟨_, _, rfl, by assumption, (Option.some.inj e).symm⟩)
    · cases e
  · obtain ⟨t, h1, h2⟩ := iv_jp_s e
    exact Or.inr (Or.inr ⟨_, t, rfl, h1, h2⟩)
  · cases e
theorem iv_inn_s {z : iv_Z} {mi pc : Nat} {off : Int} {al : iv_L} {st : List Value} {h : iv_H} {o : iv_O} (e : iv_op z mi pc (.ifnonnull off) al st h = some o) : (∃ k r t, st = .ref k :: r ∧ (pc : Int) + off = ((t : Nat) : Int) ∧ o = (t, al, r, none)) ∨ (∃ k r t, st = .retAddr k :: r ∧ (z k).isSome = true ∧ (pc : Int) + off = ((t : Nat) : Int) ∧ o = (t, al, r, none)) ∨ ∃ r, st = .null :: r ∧ o = (pc + 3, al, r, none) := by
  simp only [iv_op, iv_sem] at e
  split at e
  · obtain ⟨t, h1, h2⟩ := iv_jp_s e
    exact Or.inl ⟨_, _, t, rfl, h1, h2⟩
  · split at e
    · obtain ⟨t, h1, h2⟩ := iv_jp_s e
      exact Or.inr (Or.inl ⟨_, _, t, rfl, by assumption, h1, h2⟩)
    · cases e
  · exact Or.inr (Or.inr ⟨_, rfl, (Option.some.inj e).symm⟩)
  · cases e
def iv_acB (cc : Jvm.ClassFile.ACond) (a b : Nat) : Bool := match cc with
  | .eq => decide (a = b)
  | .ne => decide (¬ a = b)
theorem iv_acm_s {z : iv_Z} {mi pc : Nat} {cc : Jvm.ClassFile.ACond} {off : Int} {al : iv_L} {st : List Value} {h : iv_H} {o : iv_O} (e : iv_op z mi pc (.if_acmp cc off) al st h = some o) : ∃ b a r t, st = .ref b :: .ref a :: r ∧ (pc : Int) + off = ((t : Nat) : Int) ∧ ((iv_acB cc a b = true ∧ o = (t, al, r, none)) ∨ (iv_acB cc a b = false ∧ o = (pc + 3, al, r, none))) := by
  cases cc with
  | eq =>
    simp only [iv_op, iv_sem] at e
    obtain ⟨b, r1, rfl, e_1⟩ := iv_r_s e
    obtain ⟨a, r, rfl, e_2⟩ := iv_r_s e_1
    obtain ⟨t, h1, h2⟩ := iv_br_s e_2
    exact ⟨b, a, r, t, rfl, h1, h2⟩
  | ne =>
    simp only [iv_op, iv_sem] at e
    obtain ⟨b, r1, rfl, e_1⟩ := iv_r_s e
    obtain ⟨a, r, rfl, e_2⟩ := iv_r_s e_1
    obtain ⟨t, h1, h2⟩ := iv_br_s e_2
    exact ⟨b, a, r, t, rfl, h1, h2⟩
theorem iv_gst_s {z : iv_Z} {mi pc idx : Nat} {al : iv_L} {st : List Value} {h : iv_H} {o : iv_O} (e : iv_op z mi pc (.getstatic idx) al st h = some o) : ∃ k, iv_ss (iv_kf mi) idx = some k ∧ k < 4 ∧ o = (pc + 3, al, iv_sv k :: st, none) := by
  simp only [iv_op, iv_sem] at e
  obtain ⟨k, e1, e_1⟩ := Option.bind_eq_some_iff.mp e
  refine ⟨k, e1, ?_⟩
  split at e_1
  · exact ⟨by decide, iv_pi_s e_1⟩
  · exact ⟨by decide, (Option.some.inj e_1).symm⟩
  · exact ⟨by decide, (Option.some.inj e_1).symm⟩
  · exact ⟨by decide, (Option.some.inj e_1).symm⟩
  · cases e_1
theorem iv_oc_s {h : iv_H} {b ci : Nat} (e : iv_oc h b ci = true) : ∃ fs, h[b]? = some (.inl (ci, fs)) := by
  unfold iv_oc at e
  split at e
  · rename_i o ho
    have := of_decide_eq_true e
    subst this
    exact ⟨o.2, ho⟩
  · cases e
theorem iv_ao__s {h : iv_H} {b t : Nat} (e : iv_ao_ h b t = true) : ∃ a, h[b]? = some (.inr a) ∧ a.1 = t := by
  unfold iv_ao_ at e
  split at e
  · rename_i a ha
    exact ⟨a, ha, of_decide_eq_true e⟩
  · cases e
theorem iv_cst_s {z : iv_Z} {mi pc idx : Nat} {al : iv_L} {st : List Value} {h : iv_H} {o : iv_O} (e : iv_op z mi pc (.checkcast idx) al st h = some o) : (∃ k r t a, st = .ref k :: r ∧ iv_ka (iv_kf mi) idx = some t ∧ h[k]? = some (.inr a) ∧ a.1 = t ∧ o = (pc + 3, al, .ref k :: r, none)) ∨ ∃ k r ci fs, st = .ref k :: r ∧ iv_nc (iv_kf mi) idx = some ci ∧ h[k]? = some (.inl (ci, fs)) ∧ o = (pc + 3, al, .ref k :: r, none) := by
  simp only [iv_op, iv_sem] at e
  obtain ⟨k, r, rfl, e_1⟩ := iv_r_s e
  split at e_1
  · rename_i t ht
    split at e_1
    · rename_i hc
      obtain ⟨a, h1, h2⟩ := iv_ao__s hc
      exact Or.inl ⟨k, r, t, a, rfl, ht, h1, h2, (Option.some.inj e_1).symm⟩
    · cases e_1
  · obtain ⟨ci, e1, e_2⟩ := Option.bind_eq_some_iff.mp e_1
    split at e_2
    · rename_i hc
      obtain ⟨fs, h1⟩ := iv_oc_s hc
      exact Or.inr ⟨k, r, ci, fs, rfl, e1, h1, (Option.some.inj e_2).symm⟩
    · cases e_2
theorem iv_ins_s {z : iv_Z} {mi pc idx : Nat} {al : iv_L} {st : List Value} {h : iv_H} {o : iv_O} (e : iv_op z mi pc (.instanceof idx) al st h = some o) : ∃ k r ci fs, st = .ref k :: r ∧ iv_nc (iv_kf mi) idx = some ci ∧ h[k]? = some (.inl (ci, fs)) ∧ o = (pc + 3, al, .int 1 :: r, none) := by
  simp only [iv_op, iv_sem] at e
  obtain ⟨k, r, rfl, e_1⟩ := iv_r_s e
  obtain ⟨ci, e1, e_2⟩ := Option.bind_eq_some_iff.mp e_1
  split at e_2
  · rename_i hc
    obtain ⟨fs, h1⟩ := iv_oc_s hc
    exact ⟨k, r, ci, fs, rfl, e1, h1, iv_pi_s e_2⟩
  · cases e_2
theorem iv_cln_s {z : iv_Z} {mi pc idx : Nat} {al : iv_L} {st : List Value} {h : iv_H} {o : iv_O} (e : iv_op z mi pc (.invokevirtual idx) al st h = some o) : ∃ k r t n f, st = .ref k :: r ∧ iv_cv (iv_kf mi) idx = some t ∧ h[k]? = some (.inr (t, n, .inl f)) ∧ n ≤ 60000000 ∧ (r.map fun v => v.category).sum ≤ 8 ∧ o = (pc + 3, al, .ref h.length :: r, some (none, .inr (t, n, .inl f))) := by
  simp only [iv_op, iv_sem] at e
  obtain ⟨t, e1, e_1⟩ := Option.bind_eq_some_iff.mp e
  obtain ⟨k, r, rfl, e_2⟩ := iv_r_s e_1
  obtain ⟨q, e2, e_3⟩ := Option.bind_eq_some_iff.mp e_2
  split at e_3
  · rename_i hc
    obtain ⟨h1, h2, h3⟩ := hc
    subst h1
    exact ⟨k, r, q.1, q.2.1, q.2.2, rfl, e1, iv_ai_s e2, h2, h3, (Option.some.inj e_3).symm⟩
  · cases e_3
theorem iv_zf_n {z : iv_Z} {mi idx k : Nat} {v : Value} (e : iv_zf z mi idx k = some v) : iv_fn (iv_kf mi) idx = none := by
  unfold iv_zf at e
  split at e
  · split at e
    · split at e
      · rename_i hc
        exact hc.2
      · cases e
    · cases e
  · cases e
/-- addresses are apart -/
theorem iv_adr {ad : iv_A} {cO : Nat → ClassId} {h : iv_H} {A : Nat → Prop} (hD : va_D A (iv_w ad cO h)) {a b : Nat} (ha : a < h.length) (hb : b < h.length) : (some (ad.1 a) = some (ad.1 b)) ↔ a = b := by
  constructor
  · intro e
    obtain ⟨ca, hca⟩ : ∃ c, h[a]? = some c := ⟨_, List.getElem?_eq_getElem ha⟩
    obtain ⟨cb, hcb⟩ : ∃ c, h[b]? = some c := ⟨_, List.getElem?_eq_getElem hb⟩
    exact hD.1 a b _ _ (iv_w_get hca) (iv_w_get hcb) (Option.some.inj e)
  · intro e
    rw [e]
theorem iv_cat {D : va_G} {cO : Nat → ClassId} {U : State} (hK : iv_K D cO U) {ci : Nat} {C : String} {T : u_T} {N : Nat} (g : iv_cl[ci]? = some (C, T, N)) : ClassAt U C (D.1 ci) := (hK.1.1 ci _ g).2
theorem iv_ty_3 {t : Nat} (h : iv_ty[t]? = some .byte) : t = 3 := by
  match t, h with
  | 0, h => cases h
  | 1, h => cases h
  | 2, h => cases h
  | 3, _ => rfl
  | 4, h => cases h
  | 5, h => cases h
  | 6, h => cases h
  | n + 7, h => cases h
theorem iv_bt_f {x : Int32} (h : iv_bt x) : fits .byte (.int x) = true := by
  have f := pk_fb x
  rw [show x.toInt8.toInt32 = x from h] at f
  exact f
theorem iv_bt_c {f g : Nat → Int32} {a b n : Nat} (h1 : ∀ j, iv_bt (f j)) (h2 : ∀ j, iv_bt (g j)) (j : Nat) : iv_bt (va_cpy f g a b n j) := by
  unfold va_cpy
  split
  · exact h1 _
  · exact h2 _
theorem iv_clf {t n : Nat} {f : Nat → Int32} {cA : ClassId} {i k : Nat} {v : Value} (h : iv_ty[t]? = some (iv_at_ t)) (gc : iv_gc k (.inr (t, n, .inl f))) (hv : (vp_cell cA (n, .inl f)).slots[i]? = some v) : fits (iv_at_ t) v = true := by
  rw [vp_cell_i] at hv
  have hi : i < n := by
    have g := (Array.getElem?_eq_some_iff.mp hv).1
    rw [arrV_size] at g
    exact g
  rw [arrV_read _ _ hi] at hv
  cases hv
  unfold iv_at_ at h ⊢
  cases e : Nat.beq t 0 with
  | true => rfl
  | false =>
    rw [e] at h
    exact iv_bt_f (gc (iv_ty_3 h) i)
theorem iv_fcn {D : va_G} {cO : Nat → ClassId} {U : State} {t : Nat} (hK : iv_K D cO U) (h : iv_ty[t]? = some (iv_at_ t)) : U.vm.findClass (iv_an t) = some (cO t) := by
  have g := (hK.1.2 _ _ (iv_tys_get h)).2
  unfold iv_at_ at g
  unfold iv_an
  cases e : Nat.beq t 0 with
  | true =>
    rw [e] at g
    have g3 : U.vm.findClass ("[" ++ (FieldType.int).toString) = some (cO t) := g
    rw [show "[" ++ (FieldType.int).toString = "[I" by decide +kernel] at g3
    exact g3
  | false =>
    rw [e] at g
    have g3 : U.vm.findClass ("[" ++ (FieldType.byte).toString) = some (cO t) := g
    rw [show "[" ++ (FieldType.byte).toString = "[B" by decide +kernel] at g3
    exact g3
theorem iv_fcs {D : va_G} {cO : Nat → ClassId} {U : State} (t : Nat) (hK : iv_K D cO U) : va_Nw (.castable (iv_an t) "java/lang/Cloneable") U := by
  unfold iv_an
  cases Nat.beq t 0 with
  | true => exact hK.2.2.2.2.2.1
  | false => exact hK.2.2.2.2.2.2
/-- a row of an array of rows -/
theorem va_aldqa {p : Program} {l : Launch} {e : Env} {R : Room} {s : State} {m : MethodId} {args : Array Value} {below : List Frame} {meth : Method} {c : Code} {H : Heap} {locs : List Loc} {cells slots : Nat} {Q : State → Prop} {cc : ByteArray} {pc : Nat} {ls : Array Slot} {rest : List Value} {D : va_G} {cl : List vw_C} {a : Nat} {tys : List (ClassId × FieldType)} {ws : va_W} (hexec : p.tables.exec = Jvm.exec) (hb : c.code = cc) (hK : va_K D cl tys s) (hP : va_P D cl ws H) (q0 t0 : Nat) {cA : ClassId} {ty : FieldType} {n : Nat} {f : Nat → Option Nat} (ha : ws[q0]? = some (a, .inl (cA, n, .inr (.inr (.inr (.inr f)))))) (ht : tys[t0]? = some (cA, .array ty)) {i : Int32} (hin : vp_in i n) (hdg : decode cc pc = .ok (.aaload, 1))
    (kk : W p l e R s m args below meth c H locs cells slots Q (F0 m (pc + 1) ls (va_rf (f i.toNatClampNeg) :: rest))) : W p l e R s m args below meth c H locs cells slots Q (F0 m pc ls (.int i :: .ref a :: rest)) := by
  have hlt : i.toNatClampNeg < n := Nat.not_le.mp fun q => hin (Or.inr q)
  exact W.aald (v := va_rf (f i.toNatClampNeg)) (ty := .array ty) hexec hb (hP q0 _ ha) ((hK.2 t0 _ ht).1 n (fun j => va_rf (f j))) rfl (fun q => by cases q) (by show ¬ (i < 0 ∨ (arrV _ _ _).slots.size ≤ _); rw [arrV_size]; exact hin) (by show (arrV _ _ _).slots[_]? = _; rw [arrV_read _ _ hlt]) rfl rfl hdg kk
section IVS
variable {p : Program} {l : Launch} {e : Env} {R : Room} {s : State} {m : MethodId} {args : Array Value} {below : List Frame} {meth : Method} {c : Code} {H : Heap} {locs : List Loc} {cells slots : Nat} {Q : State → Prop}
variable {D : va_G} {cO : Nat → ClassId} {A : Nat → Prop} {H0 : Heap} {mi pc : Nat} {ad : iv_A} {al al' : iv_L} {st st' r : List Value} {h h' : iv_H} {ls ls' : Array Slot}
theorem iv_bt_u {f : Nat → Int32} {i : Nat} {x : Int32} (h : ∀ j, iv_bt (f j)) (j : Nat) : iv_bt (upd f i (vp_nar .byte x) j) := by
  unfold upd
  split
  · exact pk_vb x
  · exact h j
theorem iv_kk0 {pc' : Nat} (I : iv_I D cO A H0 mi ad al st h H locs ls) (hl : lv_has ls' (iv_mx mi) (iv_ll ad al')) (ga : iv_ga h.length al') (gs : iv_gl h.length st')
    (kk : ∀ (ad' : iv_A) (H' : Heap) (locs' : List Loc) (ls' : Array Slot), iv_ag h.length ad ad' → iv_I D cO A H0 mi ad' al' st' h H' locs' ls' → W p l e R s m args below meth c H' locs' (cells + (h.length - h.length)) (slots + (iv_sz h - iv_sz h)) Q (F0 m pc' ls' (st'.map (iv_v ad')))) :
    W p l e R s m args below meth c H locs cells slots Q (F0 m pc' ls' (st'.map (iv_v ad))) := by
  have k := kk ad H locs ls' iv_ag.rf ⟨I.1, I.2.1, I.2.2.1, hl, ga, gs, I.2.2.2.2.2.2⟩
  rw [Nat.sub_self, Nat.sub_self] at k
  exact k
theorem iv_kkS {pc' k : Nat} {cl : iv_C} {H1 : Heap} {locs1 : List Loc} (hef : iv_ef h (some (some k, cl)) = some h') (I : iv_I D cO A H0 mi ad al st h H locs ls) (hP1 : va_P D iv_cl (iv_w ad cO (h.set k cl)) H1) (hD1 : va_D A (iv_w ad cO (h.set k cl))) (hS1 : va_S A H0 H1 locs1) (gs : iv_gl h.length st') (gc : iv_gc h.length cl)
    (kk : ∀ (ad' : iv_A) (H' : Heap) (locs' : List Loc) (ls' : Array Slot), iv_ag h.length ad ad' → iv_I D cO A H0 mi ad' al st' h' H' locs' ls' → W p l e R s m args below meth c H' locs' (cells + (h'.length - h.length)) (slots + (iv_sz h' - iv_sz h)) Q (F0 m pc' ls' (st'.map (iv_v ad')))) :
    W p l e R s m args below meth c H1 locs1 cells slots Q (F0 m pc' ls (st'.map (iv_v ad))) := by
  unfold iv_ef at hef
  dsimp only at hef
  split at hef
  · rename_i hz
    cases hef
    have hlen : (h.set k cl).length = h.length := List.length_set
    have k2 := kk ad H1 locs1 ls iv_ag.rf ⟨hP1, hD1, hS1, I.2.2.2.1, by rw [hlen]; exact I.2.2.2.2.1, by rw [hlen]; exact gs, by
      rw [hlen]
      intro j d hj
      rw [List.getElem?_set] at hj
      split at hj
      · split at hj
        · cases hj; exact gc
        · cases hj
      · exact I.2.2.2.2.2.2 j d hj⟩
    rw [hlen, iv_sz_set hz, Nat.sub_self, Nat.sub_self] at k2
    exact k2
  · cases hef
theorem iv_kkN {pc' q : Nat} {cl : iv_C} {H1 : Heap} {locs1 : List Loc} (hef : iv_ef h (some (none, cl)) = some h') (I : iv_I D cO A H0 mi ad al st h H locs ls) (hP1 : va_P D iv_cl (iv_w ad cO h ++ [(q, iv_e ad cO cl)]) H1) (hD1 : va_D A (iv_w ad cO h ++ [(q, iv_e ad cO cl)])) (hS1 : va_S A H0 H1 locs1) (gr : iv_gl h.length r) (gc : iv_gc h.length cl)
    (kk : ∀ (ad' : iv_A) (H' : Heap) (locs' : List Loc) (ls' : Array Slot), iv_ag h.length ad ad' → iv_I D cO A H0 mi ad' al (.ref h.length :: r) h' H' locs' ls' → W p l e R s m args below meth c H' locs' (cells + (h'.length - h.length)) (slots + (iv_sz h' - iv_sz h)) Q (F0 m pc' ls' ((Value.ref h.length :: r).map (iv_v ad')))) :
    W p l e R s m args below meth c H1 locs1 (cells + 1) (slots + iv_cz cl) Q (F0 m pc' ls (.ref q :: r.map (iv_v ad))) := by
  have hh : h' = h ++ [cl] := (Option.some.inj hef).symm
  subst hh
  have hlen : (h ++ [cl]).length = h.length + 1 := by simp
  have ag := iv_up_ag ad h.length q
  rw [iv_w_push I.2.2.2.2.2.2 gc q] at hP1 hD1
  have k2 := kk (iv_up ad h.length q) H1 locs1 ls ag ⟨hP1, hD1, hS1, iv_ll_ag ag I.2.2.2.2.1 I.2.2.2.1, I.2.2.2.2.1.mono (by omega), .cons (iv_g_r (by omega)) (gr.mono (by omega)), by
    rw [hlen]
    intro j d hj
    by_cases hjl : j < h.length
    · rw [List.getElem?_append_left hjl] at hj
      exact (I.2.2.2.2.2.2 j d hj).mono (by omega)
    · rw [List.getElem?_append_right (by omega)] at hj
      have hz : j - h.length < 1 := (List.getElem?_eq_some_iff.mp hj).1
      rw [show j - h.length = 0 by omega] at hj
      cases hj
      exact gc.mono (by omega)⟩
  rw [hlen, iv_sz_app, show h.length + 1 - h.length = 1 by omega, show iv_sz h + iv_cz cl - iv_sz h = iv_cz cl by omega] at k2
  have e1 : (Value.ref h.length :: r).map (iv_v (iv_up ad h.length q)) = Value.ref q :: r.map (iv_v ad) := by
    rw [List.map_cons, iv_st_ag ag gr]
    show Value.ref _ :: _ = _
    simp [iv_up]
  rw [e1] at k2
  exact k2
set_option maxHeartbeats 4000000 in
set_option maxRecDepth 20000 in
theorem iv_step {z : iv_Z} {op : Jvm.ClassFile.Instr} {o : iv_O} (hop : iv_op z mi pc op al st h = some o) (hef : iv_ef h o.2.2.2 = some h') (hcd : iv_cd mi pc = some op) (X : iv_X D cO p s m args meth c mi) (I : iv_I D cO A s.heap mi ad al st h H locs ls) (hA : ∀ q, s.heap.size ≤ q → A q)
    (hE : iv_En z ad.2 A s s.heap) (hrc : cells + (h'.length - h.length) ≤ R.cells) (hrs : slots + (iv_sz h' - iv_sz h) ≤ R.slots) (hR6 : 6 ≤ R.frames ∧ 2000 ≤ R.locals)
    (kk : ∀ (ad' : iv_A) (H' : Heap) (locs' : List Loc) (ls' : Array Slot), iv_ag h.length ad ad' → iv_I D cO A s.heap mi ad' o.2.1 o.2.2.1 h' H' locs' ls' → W p l e R s m args below meth c H' locs' (cells + (h'.length - h.length)) (slots + (iv_sz h' - iv_sz h)) Q (F0 m o.1 ls' (o.2.2.1.map (iv_v ad')))) :
    W p l e R s m args below meth c H locs cells slots Q (F0 m pc ls (st.map (iv_v ad))) := by
  obtain ⟨hx, hb, hml, hown, hts, hini, hK⟩ := id X
  obtain ⟨hP, hD, hS, hl, ga, gs, gh⟩ := id I
  have hR : 1 ≤ R.frames ∧ 100 ≤ R.locals := by omega
  cases op with
  | iconst n =>
    obtain rfl := iv_pi_s hop
    cases hef
    exact lv_iconst hx hb (iv_d1 hcd rfl) rfl (iv_kk0 I hl ga (.cons (iv_g_i _ _) gs) kk)
  | bipush n =>
    obtain rfl := iv_pi_s hop
    cases hef
    exact lv_bipush hx hb (iv_d2 hcd rfl) rfl (iv_kk0 I hl ga (.cons (iv_g_i _ _) gs) kk)
  | sipush n =>
    obtain rfl := iv_pi_s hop
    cases hef
    exact lv_sipush hx hb (iv_d3 hcd rfl) rfl (iv_kk0 I hl ga (.cons (iv_g_i _ _) gs) kk)
  | lconst n =>
    obtain rfl := iv_pj_s hop
    cases hef
    exact lv_lconst hx hb (iv_d1 hcd rfl) rfl (iv_kk0 I hl ga (.cons (iv_g_j _ _) gs) kk)
  | ldc idx =>
    rcases iv_ldc_s hop with ⟨x, e1, rfl⟩ | ⟨k, e1, e2, rfl⟩
    · cases hef
      exact lv_ldc hx hb hown (hts _ (iv_fL e1)) (iv_d2 hcd rfl) (iv_kk0 I hl ga (.cons (iv_g_i _ _) gs) kk)
    · cases hef
      obtain ⟨a, tx, h1, h2⟩ := hE.2.2 _ _ _ e1
      have k2 := iv_kk0 (pc' := pc + 2) (st' := .retAddr k :: st) I hl ga (.cons (iv_g_a _ _) gs) kk
      rw [List.map_cons, iv_v_ra h1] at k2
      exact va_ldcS hx hb hown h2 (iv_d2 hcd rfl) k2
  | ldc_w idx =>
    obtain ⟨x, e1, e_1⟩ := Option.bind_eq_some_iff.mp hop
    obtain rfl := iv_pi_s e_1
    cases hef
    exact lv_ldcw hx hb hown (hts _ (iv_fL e1)) (iv_d3 hcd rfl) (iv_kk0 I hl ga (.cons (iv_g_i _ _) gs) kk)
  | ldc2_w idx =>
    have hop : id_l2 mi (pc + 3) idx al st = some o := hop
    rcases id_l2_s hop with ⟨x, e1, rfl⟩ | ⟨x, e1, rfl⟩
    · cases hef
      exact lv_ldc2 hx hb hown (hts _ (iv_fL2 e1)) (iv_d3 hcd rfl) (iv_kk0 I hl ga (.cons (iv_g_j _ _) gs) kk)
    · cases hef
      exact lv_ldc2d hx hb hown (hts _ (id_fL e1)) (iv_d3 hcd rfl) (iv_kk0 I hl ga (.cons (iv_g_d _ _) gs) kk)
  | dconst k =>
    have hop : id_pd (pc + 1) al (bif Nat.beq (k : Nat) 0 then FP.dconst0 else FP.dconst1) st = some o := hop
    obtain rfl := id_pd_s hop
    cases hef
    match k, hcd, kk with
    | 0, hcd, kk => exact lv_dconst0 hx hb (iv_d1 hcd rfl) (iv_kk0 I hl ga (.cons (iv_g_d _ _) gs) kk)
    | 1, hcd, kk => exact lv_dconst1 hx hb (iv_d1 hcd rfl) (iv_kk0 I hl ga (.cons (iv_g_d _ _) gs) kk)
  | dload_n k =>
    obtain ⟨x, e1, e_1⟩ := id_ld_s hop
    obtain rfl := id_pd_s e_1
    cases hef
    exact lv_dload_n hx hb (iv_d1 hcd rfl) rfl (iv_lv hl e1) (iv_kk0 I hl ga (.cons (iv_g_d _ _) gs) kk)
  | dload k =>
    obtain ⟨x, e1, e_1⟩ := id_ld_s hop
    obtain rfl := id_pd_s e_1
    cases hef
    exact lv_dload hx hb (iv_d2 hcd rfl) (iv_lv hl e1) (iv_kk0 I hl ga (.cons (iv_g_d _ _) gs) kk)
  | fload_n k =>
    obtain ⟨x, e1, e_1⟩ := id_lf_s hop
    obtain rfl := id_pf_s e_1
    cases hef
    exact lv_fload_n hx hb (iv_d1 hcd rfl) rfl (iv_lv hl e1) (iv_kk0 I hl ga (.cons (iv_g_f _ _) gs) kk)
  | dstore_n k =>
    obtain ⟨x, r, rfl, e_1⟩ := id_d_s hop
    obtain ⟨hn, rfl⟩ := iv_sl_s e_1
    cases hef
    exact lv_dstore_n hx hb (iv_d1 hcd rfl) rfl hl hn rfl (fun ls hl2 => iv_kk0 I (iv_s2_lv (v := .double x) hl2) (iv_ga_s2 ga (iv_g_d _ _)) gs.tl kk)
  | dstore k =>
    obtain ⟨x, r, rfl, e_1⟩ := id_d_s hop
    obtain ⟨hn, rfl⟩ := iv_sl_s e_1
    cases hef
    exact lv_dstore hx hb (iv_d2 hcd rfl) hl hn rfl (fun ls hl2 => iv_kk0 I (iv_s2_lv (v := .double x) hl2) (iv_ga_s2 ga (iv_g_d _ _)) gs.tl kk)
  | dadd =>
    obtain ⟨x, y, r, rfl, hne, rfl⟩ := id_dd_s hop
    cases hef
    exact lv_dadd hx hb (iv_d1 hcd rfl) hne (iv_kk0 I hl ga (.cons (iv_g_d _ _) gs.tl.tl) kk)
  | dsub =>
    obtain ⟨x, y, r, rfl, hne, rfl⟩ := id_dd_s hop
    cases hef
    exact lv_dsub hx hb (iv_d1 hcd rfl) hne (iv_kk0 I hl ga (.cons (iv_g_d _ _) gs.tl.tl) kk)
  | dmul =>
    obtain ⟨x, y, r, rfl, hne, rfl⟩ := id_dd_s hop
    cases hef
    exact lv_dmul hx hb (iv_d1 hcd rfl) hne (iv_kk0 I hl ga (.cons (iv_g_d _ _) gs.tl.tl) kk)
  | ddiv =>
    obtain ⟨x, y, r, rfl, hne, rfl⟩ := id_dd_s hop
    cases hef
    exact lv_ddiv hx hb (iv_d1 hcd rfl) hne (iv_kk0 I hl ga (.cons (iv_g_d _ _) gs.tl.tl) kk)
  | drem =>
    obtain ⟨x, y, r, rfl, hne, rfl⟩ := id_dd_s hop
    cases hef
    exact lv_drem hx hb (iv_d1 hcd rfl) hne (iv_kk0 I hl ga (.cons (iv_g_d _ _) gs.tl.tl) kk)
  | dcmp c =>
    obtain ⟨y, r1, rfl, e_1⟩ := id_d_s hop
    obtain ⟨x, r, rfl, e_2⟩ := id_d_s e_1
    obtain rfl := iv_pi_s e_2
    cases hef
    exact lv_dcmp hx hb (iv_d1 hcd rfl) (iv_kk0 I hl ga (.cons (iv_g_i _ _) gs.tl.tl) kk)
  | i2d =>
    obtain ⟨x, r, rfl, e_1⟩ := iv_i_s hop
    obtain rfl := id_pd_s e_1
    cases hef
    exact lv_i2d hx hb (iv_d1 hcd rfl) (iv_kk0 I hl ga (.cons (iv_g_d _ _) gs.tl) kk)
  | l2d =>
    obtain ⟨x, r, rfl, e_1⟩ := iv_j_s hop
    obtain rfl := id_pd_s e_1
    cases hef
    exact lv_l2d hx hb (iv_d1 hcd rfl) (iv_kk0 I hl ga (.cons (iv_g_d _ _) gs.tl) kk)
  | d2l =>
    obtain ⟨x, r, rfl, e_1⟩ := id_d_s hop
    obtain rfl := iv_pj_s e_1
    cases hef
    exact lv_d2l hx hb (iv_d1 hcd rfl) (iv_kk0 I hl ga (.cons (iv_g_j _ _) gs.tl) kk)
  | d2f =>
    obtain ⟨x, r, rfl, e_1⟩ := id_d_s hop
    obtain ⟨hne, rfl⟩ := id_gf_s e_1
    cases hef
    exact lv_d2f hx hb (iv_d1 hcd rfl) hne (iv_kk0 I hl ga (.cons (iv_g_f _ _) gs.tl) kk)
  | f2d =>
    obtain ⟨x, r, rfl, e_1⟩ := id_f_s hop
    obtain ⟨hne, rfl⟩ := id_gd_s e_1
    cases hef
    exact lv_f2d hx hb (iv_d1 hcd rfl) hne (iv_kk0 I hl ga (.cons (iv_g_d _ _) gs.tl) kk)
  | iload_n k =>
    obtain ⟨x, e1, e_1⟩ := iv_li_s hop
    obtain rfl := iv_pi_s e_1
    cases hef
    exact lv_iload_n hx hb (iv_d1 hcd rfl) rfl (iv_lv hl e1) (iv_kk0 I hl ga (.cons (iv_g_i _ _) gs) kk)
  | iload k =>
    obtain ⟨x, e1, e_1⟩ := iv_li_s hop
    obtain rfl := iv_pi_s e_1
    cases hef
    exact lv_iload hx hb (iv_d2 hcd rfl) (iv_lv hl e1) (iv_kk0 I hl ga (.cons (iv_g_i _ _) gs) kk)
  | lload_n k =>
    obtain ⟨x, e1, e_1⟩ := iv_lj_s hop
    obtain rfl := iv_pj_s e_1
    cases hef
    exact lv_lload_n hx hb (iv_d1 hcd rfl) rfl (iv_lv hl e1) (iv_kk0 I hl ga (.cons (iv_g_j _ _) gs) kk)
  | lload k =>
    obtain ⟨x, e1, e_1⟩ := iv_lj_s hop
    obtain rfl := iv_pj_s e_1
    cases hef
    exact lv_lload hx hb (iv_d2 hcd rfl) (iv_lv hl e1) (iv_kk0 I hl ga (.cons (iv_g_j _ _) gs) kk)
  | aload_n k =>
    have hop : iv_la al (k : Nat) (fun x => some (pc + 1, al, x :: st, none)) = some o := hop
    obtain ⟨v, e1, hv, e_1⟩ := iv_la_s hop
    cases e_1
    cases hef
    rcases hv with ⟨k2, rfl⟩ | ⟨k2, rfl⟩
    · exact lv_aload_n hx hb (iv_d1 hcd rfl) rfl (iv_lv hl e1) (iv_kk0 I hl ga (.cons (ga _ _ e1) gs) kk)
    · have k3 := iv_kk0 (pc' := pc + 1) (st' := .retAddr k2 :: st) I hl ga (.cons (ga _ _ e1) gs) kk
      have l3 := iv_lv hl e1
      cases hro : ad.2 k2 with
      | none =>
        rw [List.map_cons, iv_v_rn hro] at k3
        rw [iv_v_rn hro] at l3
        exact lv_aload_nN hx hb (iv_d1 hcd rfl) rfl l3 k3
      | some a =>
        rw [List.map_cons, iv_v_ra hro] at k3
        rw [iv_v_ra hro] at l3
        exact lv_aload_n hx hb (iv_d1 hcd rfl) rfl l3 k3
  | aload k =>
    have hop : iv_la al k (fun x => some (pc + 2, al, x :: st, none)) = some o := hop
    obtain ⟨v, e1, hv, e_1⟩ := iv_la_s hop
    cases e_1
    cases hef
    rcases hv with ⟨k2, rfl⟩ | ⟨k2, rfl⟩
    · exact lv_aload hx hb (iv_d2 hcd rfl) (iv_lv hl e1) (iv_kk0 I hl ga (.cons (ga _ _ e1) gs) kk)
    · have k3 := iv_kk0 (pc' := pc + 2) (st' := .retAddr k2 :: st) I hl ga (.cons (ga _ _ e1) gs) kk
      have l3 := iv_lv hl e1
      cases hro : ad.2 k2 with
      | none =>
        rw [List.map_cons, iv_v_rn hro] at k3
        rw [iv_v_rn hro] at l3
        exact lv_aloadN hx hb (iv_d2 hcd rfl) l3 k3
      | some a =>
        rw [List.map_cons, iv_v_ra hro] at k3
        rw [iv_v_ra hro] at l3
        exact lv_aload hx hb (iv_d2 hcd rfl) l3 k3
  | istore_n k =>
    obtain ⟨x, r, rfl, e_1⟩ := iv_i_s hop
    obtain ⟨hn, rfl⟩ := iv_sl_s e_1
    cases hef
    exact lv_istore_n hx hb (iv_d1 hcd rfl) rfl hl hn rfl (fun ls hl2 => iv_kk0 I (iv_s1_lv (v := .int x) hl2) (iv_ga_s1 ga (iv_g_i _ _)) gs.tl kk)
  | istore k =>
    obtain ⟨x, r, rfl, e_1⟩ := iv_i_s hop
    obtain ⟨hn, rfl⟩ := iv_sl_s e_1
    cases hef
    exact lv_istore hx hb (iv_d2 hcd rfl) hl hn rfl (fun ls hl2 => iv_kk0 I (iv_s1_lv (v := .int x) hl2) (iv_ga_s1 ga (iv_g_i _ _)) gs.tl kk)
  | lstore_n k =>
    obtain ⟨x, r, rfl, e_1⟩ := iv_j_s hop
    obtain ⟨hn, rfl⟩ := iv_sl_s e_1
    cases hef
    exact lv_lstore_n hx hb (iv_d1 hcd rfl) rfl hl hn rfl (fun ls hl2 => iv_kk0 I (iv_s2_lv (v := .long x) hl2) (iv_ga_s2 ga (iv_g_j _ _)) gs.tl kk)
  | lstore k =>
    obtain ⟨x, r, rfl, e_1⟩ := iv_j_s hop
    obtain ⟨hn, rfl⟩ := iv_sl_s e_1
    cases hef
    exact lv_lstore hx hb (iv_d2 hcd rfl) hl hn rfl (fun ls hl2 => iv_kk0 I (iv_s2_lv (v := .long x) hl2) (iv_ga_s2 ga (iv_g_j _ _)) gs.tl kk)
  | astore_n k =>
    obtain ⟨x, r, rfl, e_1⟩ := iv_r_s hop
    obtain ⟨hn, rfl⟩ := iv_sl_s e_1
    cases hef
    exact lv_astore_n hx hb (iv_d1 hcd rfl) rfl hl hn rfl (fun ls hl2 => iv_kk0 I (iv_s1_lv (v := .ref x) hl2) (iv_ga_s1 ga (gs.hd)) gs.tl kk)
  | astore k =>
    obtain ⟨x, r, rfl, e_1⟩ := iv_r_s hop
    obtain ⟨hn, rfl⟩ := iv_sl_s e_1
    cases hef
    exact lv_astore hx hb (iv_d2 hcd rfl) hl hn rfl (fun ls hl2 => iv_kk0 I (iv_s1_lv (v := .ref x) hl2) (iv_ga_s1 ga (gs.hd)) gs.tl kk)
  | iinc i n =>
    obtain ⟨x, e1, e_1⟩ := iv_li_s hop
    obtain ⟨hn, rfl⟩ := iv_sl_s e_1
    cases hef
    obtain ⟨k2, hk2⟩ := List.getElem?_of_mem (iv_ll_mem.mpr ⟨_, e1, rfl⟩ : (i, iv_v ad (.int x)) ∈ iv_ll ad al)
    exact lv_iinc hx hb (iv_d3 hcd rfl) hl hk2 rfl hn rfl (fun ls hl2 => iv_kk0 I (iv_s1_lv (v := .int (x + Int32.ofInt n)) hl2) (iv_ga_s1 ga (iv_g_i _ _)) gs kk)
  | iadd =>
    obtain ⟨x, y, r, rfl, rfl⟩ := iv_ii_s hop
    cases hef
    exact lv_iadd hx hb (iv_d1 hcd rfl) (iv_kk0 I hl ga (.cons (iv_g_i _ _) gs.tl.tl) kk)
  | isub =>
    obtain ⟨x, y, r, rfl, rfl⟩ := iv_ii_s hop
    cases hef
    exact lv_isub hx hb (iv_d1 hcd rfl) (iv_kk0 I hl ga (.cons (iv_g_i _ _) gs.tl.tl) kk)
  | imul =>
    obtain ⟨x, y, r, rfl, rfl⟩ := iv_ii_s hop
    cases hef
    exact lv_imul hx hb (iv_d1 hcd rfl) (iv_kk0 I hl ga (.cons (iv_g_i _ _) gs.tl.tl) kk)
  | iand =>
    obtain ⟨x, y, r, rfl, rfl⟩ := iv_ii_s hop
    cases hef
    exact lv_iand hx hb (iv_d1 hcd rfl) (iv_kk0 I hl ga (.cons (iv_g_i _ _) gs.tl.tl) kk)
  | ior =>
    obtain ⟨x, y, r, rfl, rfl⟩ := iv_ii_s hop
    cases hef
    exact lv_ior hx hb (iv_d1 hcd rfl) (iv_kk0 I hl ga (.cons (iv_g_i _ _) gs.tl.tl) kk)
  | ixor =>
    obtain ⟨x, y, r, rfl, rfl⟩ := iv_ii_s hop
    cases hef
    exact lv_ixor hx hb (iv_d1 hcd rfl) (iv_kk0 I hl ga (.cons (iv_g_i _ _) gs.tl.tl) kk)
  | ishl =>
    obtain ⟨x, y, r, rfl, rfl⟩ := iv_ii_s hop
    cases hef
    exact lv_ishl hx hb (iv_d1 hcd rfl) (iv_kk0 I hl ga (.cons (iv_g_i _ _) gs.tl.tl) kk)
  | ishr =>
    obtain ⟨x, y, r, rfl, rfl⟩ := iv_ii_s hop
    cases hef
    exact lv_ishr hx hb (iv_d1 hcd rfl) (iv_kk0 I hl ga (.cons (iv_g_i _ _) gs.tl.tl) kk)
  | iushr =>
    obtain ⟨x, y, r, rfl, rfl⟩ := iv_ii_s hop
    cases hef
    exact lv_iushr hx hb (iv_d1 hcd rfl) rfl (iv_kk0 I hl ga (.cons (iv_g_i _ _) gs.tl.tl) kk)
  | ladd =>
    obtain ⟨x, y, r, rfl, rfl⟩ := iv_jj_s hop
    cases hef
    exact lv_ladd hx hb (iv_d1 hcd rfl) (iv_kk0 I hl ga (.cons (iv_g_j _ _) gs.tl.tl) kk)
  | lsub =>
    obtain ⟨x, y, r, rfl, rfl⟩ := iv_jj_s hop
    cases hef
    exact lv_lsub hx hb (iv_d1 hcd rfl) (iv_kk0 I hl ga (.cons (iv_g_j _ _) gs.tl.tl) kk)
  | lmul =>
    obtain ⟨x, y, r, rfl, rfl⟩ := iv_jj_s hop
    cases hef
    exact lv_lmul hx hb (iv_d1 hcd rfl) (iv_kk0 I hl ga (.cons (iv_g_j _ _) gs.tl.tl) kk)
  | land =>
    obtain ⟨x, y, r, rfl, rfl⟩ := iv_jj_s hop
    cases hef
    exact lv_land hx hb (iv_d1 hcd rfl) (iv_kk0 I hl ga (.cons (iv_g_j _ _) gs.tl.tl) kk)
  | lor =>
    obtain ⟨x, y, r, rfl, rfl⟩ := iv_jj_s hop
    cases hef
    exact lv_lor hx hb (iv_d1 hcd rfl) (iv_kk0 I hl ga (.cons (iv_g_j _ _) gs.tl.tl) kk)
  | lxor =>
    obtain ⟨x, y, r, rfl, rfl⟩ := iv_jj_s hop
    cases hef
    exact lv_lxor hx hb (iv_d1 hcd rfl) (iv_kk0 I hl ga (.cons (iv_g_j _ _) gs.tl.tl) kk)
  | idiv =>
    obtain ⟨y, r1, rfl, e_1⟩ := iv_i_s hop
    obtain ⟨x, r, rfl, e_2⟩ := iv_i_s e_1
    split at e_2
    · cases e_2
    · rename_i hne
      obtain rfl := iv_pi_s e_2
      cases hef
      exact lv_idiv hx hb (iv_d1 hcd rfl) hne (iv_kk0 I hl ga (.cons (iv_g_i _ _) gs.tl.tl) kk)
  | irem =>
    obtain ⟨y, r1, rfl, e_1⟩ := iv_i_s hop
    obtain ⟨x, r, rfl, e_2⟩ := iv_i_s e_1
    split at e_2
    · cases e_2
    · rename_i hne
      obtain rfl := iv_pi_s e_2
      cases hef
      exact lv_irem hx hb (iv_d1 hcd rfl) hne (iv_kk0 I hl ga (.cons (iv_g_i _ _) gs.tl.tl) kk)
  | ldiv =>
    obtain ⟨y, r1, rfl, e_1⟩ := iv_j_s hop
    obtain ⟨x, r, rfl, e_2⟩ := iv_j_s e_1
    split at e_2
    · cases e_2
    · rename_i hne
      obtain rfl := iv_pj_s e_2
      cases hef
      exact lv_ldiv hx hb (iv_d1 hcd rfl) hne (iv_kk0 I hl ga (.cons (iv_g_j _ _) gs.tl.tl) kk)
  | lrem =>
    obtain ⟨y, r1, rfl, e_1⟩ := iv_j_s hop
    obtain ⟨x, r, rfl, e_2⟩ := iv_j_s e_1
    split at e_2
    · cases e_2
    · rename_i hne
      obtain rfl := iv_pj_s e_2
      cases hef
      exact lv_lrem hx hb (iv_d1 hcd rfl) hne (iv_kk0 I hl ga (.cons (iv_g_j _ _) gs.tl.tl) kk)
  | ineg =>
    obtain ⟨x, r, rfl, e_1⟩ := iv_i_s hop
    obtain rfl := iv_pi_s e_1
    cases hef
    exact lv_ineg hx hb (iv_d1 hcd rfl) (iv_kk0 I hl ga (.cons (iv_g_i _ _) gs.tl) kk)
  | lshl =>
    obtain ⟨y, r1, rfl, e_1⟩ := iv_i_s hop
    obtain ⟨x, r, rfl, e_2⟩ := iv_j_s e_1
    obtain rfl := iv_pj_s e_2
    cases hef
    exact lv_lshl hx hb (iv_d1 hcd rfl) rfl (iv_kk0 I hl ga (.cons (iv_g_j _ _) gs.tl.tl) kk)
  | lshr =>
    obtain ⟨y, r1, rfl, e_1⟩ := iv_i_s hop
    obtain ⟨x, r, rfl, e_2⟩ := iv_j_s e_1
    obtain rfl := iv_pj_s e_2
    cases hef
    exact lv_lshr hx hb (iv_d1 hcd rfl) rfl (iv_kk0 I hl ga (.cons (iv_g_j _ _) gs.tl.tl) kk)
  | pop2 =>
    obtain ⟨v, r, rfl, hv, e_1⟩ := iv_2_s hop
    cases e_1
    cases hef
    exact lv_pop2_2 hx hb (iv_d1 hcd rfl) ((iv_v_cat ad v).trans hv) (iv_kk0 I hl ga gs.tl kk)
  | lneg =>
    obtain ⟨x, r, rfl, e_1⟩ := iv_j_s hop
    obtain rfl := iv_pj_s e_1
    cases hef
    exact lv_lneg hx hb (iv_d1 hcd rfl) (iv_kk0 I hl ga (.cons (iv_g_j _ _) gs.tl) kk)
  | lcmp =>
    obtain ⟨y, r1, rfl, e_1⟩ := iv_j_s hop
    obtain ⟨x, r, rfl, e_2⟩ := iv_j_s e_1
    obtain rfl := iv_pi_s e_2
    cases hef
    exact W.lcmp hx hb (iv_d1 hcd rfl) (iv_kk0 I hl ga (.cons (iv_g_i _ _) gs.tl.tl) kk)
  | i2l =>
    obtain ⟨x, r, rfl, e_1⟩ := iv_i_s hop
    obtain rfl := iv_pj_s e_1
    cases hef
    exact lv_i2l hx hb (iv_d1 hcd rfl) rfl (iv_kk0 I hl ga (.cons (iv_g_j _ _) gs.tl) kk)
  | l2i =>
    obtain ⟨x, r, rfl, e_1⟩ := iv_j_s hop
    obtain rfl := iv_pi_s e_1
    cases hef
    exact lv_l2i hx hb (iv_d1 hcd rfl) rfl (iv_kk0 I hl ga (.cons (iv_g_i _ _) gs.tl) kk)
  | i2b =>
    obtain ⟨x, r, rfl, e_1⟩ := iv_i_s hop
    obtain rfl := iv_pi_s e_1
    cases hef
    exact lv_i2b hx hb (iv_d1 hcd rfl) rfl (iv_kk0 I hl ga (.cons (iv_g_i _ _) gs.tl) kk)
  | dup =>
    obtain ⟨v, r, rfl, hv, e_1⟩ := iv_1_s hop
    cases e_1
    cases hef
    exact lv_dup hx hb (iv_d1 hcd rfl) ((iv_v_cat ad v).trans hv) (iv_kk0 I hl ga (.cons gs.hd gs) kk)
  | pop =>
    obtain ⟨v, r, rfl, hv, e_1⟩ := iv_1_s hop
    cases e_1
    cases hef
    exact lv_pop hx hb (iv_d1 hcd rfl) ((iv_v_cat ad v).trans hv) (iv_kk0 I hl ga gs.tl kk)
  | dup_x1 =>
    obtain ⟨v, r1, rfl, hv, e_1⟩ := iv_1_s hop
    obtain ⟨u, r, rfl, hu, e_2⟩ := iv_1_s e_1
    cases e_2
    cases hef
    exact lv_dup_x1 hx hb (iv_d1 hcd rfl) ((iv_v_cat ad v).trans hv) ((iv_v_cat ad u).trans hu) (iv_kk0 I hl ga (.cons gs.hd (.cons gs.tl.hd (.cons gs.hd gs.tl.tl))) kk)
  | dup_x2 =>
    obtain ⟨v, r1, rfl, hv, e_1⟩ := iv_1_s hop
    obtain ⟨u, r2, rfl, hu, e_2⟩ := iv_1_s e_1
    obtain ⟨y, r, rfl, hy, e_3⟩ := iv_1_s e_2
    cases e_3
    cases hef
    exact lv_dup_x2 hx hb (iv_d1 hcd rfl) ((iv_v_cat ad v).trans hv) ((iv_v_cat ad u).trans hu) ((iv_v_cat ad y).trans hy) (iv_kk0 I hl ga (.cons gs.hd (.cons gs.tl.hd (.cons gs.tl.tl.hd (.cons gs.hd gs.tl.tl.tl)))) kk)
  | dup2 =>
    rcases iv_dup2_s hop with ⟨v, r, rfl, hv, rfl⟩ | ⟨v, u, r, rfl, hv, hu, rfl⟩
    · cases hef
      exact lv_dup2_2 hx hb (iv_d1 hcd rfl) ((iv_v_cat ad v).trans hv) (iv_kk0 I hl ga (.cons gs.hd gs) kk)
    · cases hef
      exact lv_dup2_11 hx hb (iv_d1 hcd rfl) ((iv_v_cat ad v).trans hv) ((iv_v_cat ad u).trans hu) (iv_kk0 I hl ga (.cons gs.hd (.cons gs.tl.hd gs)) kk)
  | goto off =>
    obtain ⟨t, ht, rfl⟩ := iv_jp_s hop
    cases hef
    exact lv_goto hx hb (iv_d3 hcd rfl) ht (iv_kk0 I hl ga gs kk)
  | ifCond cc off =>
    cases cc with
    | eq =>
      obtain ⟨x, r, rfl, t, ht, q⟩ := iv_c1_s hop
      rcases q with ⟨hc, rfl⟩ | ⟨hc, rfl⟩ <;> cases hef
      · exact lv_if_eq hx hb (iv_d3 hcd rfl) ht (fun _ => iv_kk0 I hl ga gs.tl kk) (fun q => absurd (of_decide_eq_true hc) q)
      · exact lv_if_eq hx hb (iv_d3 hcd rfl) ht (fun q => absurd q (of_decide_eq_false hc)) (fun _ => iv_kk0 I hl ga gs.tl kk)
    | ne =>
      obtain ⟨x, r, rfl, t, ht, q⟩ := iv_c1_s hop
      rcases q with ⟨hc, rfl⟩ | ⟨hc, rfl⟩ <;> cases hef
      · exact lv_if_ne hx hb (iv_d3 hcd rfl) ht (fun _ => iv_kk0 I hl ga gs.tl kk) (fun q => absurd (of_decide_eq_true hc) (fun z => z q))
      · exact lv_if_ne hx hb (iv_d3 hcd rfl) ht (fun q => absurd q (of_decide_eq_false hc)) (fun _ => iv_kk0 I hl ga gs.tl kk)
    | lt =>
      obtain ⟨x, r, rfl, t, ht, q⟩ := iv_c1_s hop
      rcases q with ⟨hc, rfl⟩ | ⟨hc, rfl⟩ <;> cases hef
      · exact lv_if_lt hx hb (iv_d3 hcd rfl) ht (fun _ => iv_kk0 I hl ga gs.tl kk) (fun q => absurd (of_decide_eq_true hc) q)
      · exact lv_if_lt hx hb (iv_d3 hcd rfl) ht (fun q => absurd q (of_decide_eq_false hc)) (fun _ => iv_kk0 I hl ga gs.tl kk)
    | ge =>
      obtain ⟨x, r, rfl, t, ht, q⟩ := iv_c1_s hop
      rcases q with ⟨hc, rfl⟩ | ⟨hc, rfl⟩ <;> cases hef
      · exact lv_if_ge hx hb (iv_d3 hcd rfl) ht (fun _ => iv_kk0 I hl ga gs.tl kk) (fun q => absurd (of_decide_eq_true hc) q)
      · exact lv_if_ge hx hb (iv_d3 hcd rfl) ht (fun q => absurd q (of_decide_eq_false hc)) (fun _ => iv_kk0 I hl ga gs.tl kk)
    | gt =>
      obtain ⟨x, r, rfl, t, ht, q⟩ := iv_c1_s hop
      rcases q with ⟨hc, rfl⟩ | ⟨hc, rfl⟩ <;> cases hef
      · exact lv_if_gt hx hb (iv_d3 hcd rfl) ht (fun _ => iv_kk0 I hl ga gs.tl kk) (fun q => absurd (of_decide_eq_true hc) q)
      · exact lv_if_gt hx hb (iv_d3 hcd rfl) ht (fun q => absurd q (of_decide_eq_false hc)) (fun _ => iv_kk0 I hl ga gs.tl kk)
    | le =>
      obtain ⟨x, r, rfl, t, ht, q⟩ := iv_c1_s hop
      rcases q with ⟨hc, rfl⟩ | ⟨hc, rfl⟩ <;> cases hef
      · exact lv_if_le hx hb (iv_d3 hcd rfl) ht (fun _ => iv_kk0 I hl ga gs.tl kk) (fun q => absurd (of_decide_eq_true hc) q)
      · exact lv_if_le hx hb (iv_d3 hcd rfl) ht (fun q => absurd q (of_decide_eq_false hc)) (fun _ => iv_kk0 I hl ga gs.tl kk)
  | if_icmp cc off =>
    cases cc with
    | eq =>
      obtain ⟨x, y, r, rfl, t, ht, q⟩ := iv_c2_s hop
      rcases q with ⟨hc, rfl⟩ | ⟨hc, rfl⟩ <;> cases hef
      · exact lv_icmp_eq hx hb (iv_d3 hcd rfl) ht (fun _ => iv_kk0 I hl ga gs.tl.tl kk) (fun q => absurd (of_decide_eq_true hc) q)
      · exact lv_icmp_eq hx hb (iv_d3 hcd rfl) ht (fun q => absurd q (of_decide_eq_false hc)) (fun _ => iv_kk0 I hl ga gs.tl.tl kk)
    | ne =>
      obtain ⟨x, y, r, rfl, t, ht, q⟩ := iv_c2_s hop
      rcases q with ⟨hc, rfl⟩ | ⟨hc, rfl⟩ <;> cases hef
      · exact lv_icmp_ne hx hb (iv_d3 hcd rfl) ht (fun _ => iv_kk0 I hl ga gs.tl.tl kk) (fun q => absurd (of_decide_eq_true hc) (fun z => z q))
      · exact lv_icmp_ne hx hb (iv_d3 hcd rfl) ht (fun q => absurd q (of_decide_eq_false hc)) (fun _ => iv_kk0 I hl ga gs.tl.tl kk)
    | lt =>
      obtain ⟨x, y, r, rfl, t, ht, q⟩ := iv_c2_s hop
      rcases q with ⟨hc, rfl⟩ | ⟨hc, rfl⟩ <;> cases hef
      · exact lv_icmp_lt hx hb (iv_d3 hcd rfl) ht (fun _ => iv_kk0 I hl ga gs.tl.tl kk) (fun q => absurd (of_decide_eq_true hc) q)
      · exact lv_icmp_lt hx hb (iv_d3 hcd rfl) ht (fun q => absurd q (of_decide_eq_false hc)) (fun _ => iv_kk0 I hl ga gs.tl.tl kk)
    | ge =>
      obtain ⟨x, y, r, rfl, t, ht, q⟩ := iv_c2_s hop
      rcases q with ⟨hc, rfl⟩ | ⟨hc, rfl⟩ <;> cases hef
      · exact lv_icmp_ge hx hb (iv_d3 hcd rfl) ht (fun _ => iv_kk0 I hl ga gs.tl.tl kk) (fun q => absurd (of_decide_eq_true hc) q)
      · exact lv_icmp_ge hx hb (iv_d3 hcd rfl) ht (fun q => absurd q (of_decide_eq_false hc)) (fun _ => iv_kk0 I hl ga gs.tl.tl kk)
    | gt =>
      obtain ⟨x, y, r, rfl, t, ht, q⟩ := iv_c2_s hop
      rcases q with ⟨hc, rfl⟩ | ⟨hc, rfl⟩ <;> cases hef
      · exact lv_icmp_gt hx hb (iv_d3 hcd rfl) ht (fun _ => iv_kk0 I hl ga gs.tl.tl kk) (fun q => absurd (of_decide_eq_true hc) q)
      · exact lv_icmp_gt hx hb (iv_d3 hcd rfl) ht (fun q => absurd q (of_decide_eq_false hc)) (fun _ => iv_kk0 I hl ga gs.tl.tl kk)
    | le =>
      obtain ⟨x, y, r, rfl, t, ht, q⟩ := iv_c2_s hop
      rcases q with ⟨hc, rfl⟩ | ⟨hc, rfl⟩ <;> cases hef
      · exact lv_icmp_le hx hb (iv_d3 hcd rfl) ht (fun _ => iv_kk0 I hl ga gs.tl.tl kk) (fun q => absurd (of_decide_eq_true hc) q)
      · exact lv_icmp_le hx hb (iv_d3 hcd rfl) ht (fun q => absurd q (of_decide_eq_false hc)) (fun _ => iv_kk0 I hl ga gs.tl.tl kk)
  | tableswitch dflt lo hi offs =>
    obtain ⟨x, r, rfl, e_1⟩ := iv_i_s hop
    obtain ⟨len, hd⟩ := iv_dw hcd
    split at e_1
    · rename_i hc
      obtain ⟨t, ht, rfl⟩ := iv_jp_s e_1
      cases hef
      exact lv_tableOut hx hb hd hc ht (iv_kk0 I hl ga gs.tl kk)
    · rename_i hc
      obtain ⟨off, ho, e_2⟩ := Option.bind_eq_some_iff.mp e_1
      obtain ⟨t, ht, rfl⟩ := iv_jp_s e_2
      cases hef
      exact lv_tableIn hx hb hd (fun q => hc (Or.inl q)) (fun q => hc (Or.inr q)) ho ht (iv_kk0 I hl ga gs.tl kk)
  | lookupswitch dflt ps =>
    obtain ⟨x, r, rfl, e_1⟩ := iv_i_s hop
    obtain ⟨len, hd⟩ := iv_dw hcd
    split at e_1
    · rename_i hc
      obtain ⟨t, ht, rfl⟩ := iv_jp_s e_1
      cases hef
      exact lv_lookup hx hb hd hc rfl ht (iv_kk0 I hl ga gs.tl kk)
    · cases e_1
  | getfield idx =>
    rcases iv_gfd_s hop with ⟨k, r, v, rfl, e1, rfl⟩ | ⟨k, r, v, rfl, e1, rfl⟩
    · cases hef
      obtain ⟨ci, j, fs, f1, f2, f3⟩ := iv_zf_s e1
      obtain ⟨C, T, N, g1, g2, g3, g4⟩ := iv_fF f1
      obtain ⟨a, q1, C', T', N', q2, q3, q4⟩ := hE.1 k _ f2
      obtain ⟨n1, n2⟩ := q4 j v f3
      cases g1.symm.trans q2
      have hfn : iv_fn (iv_kf mi) idx = none := iv_zf_n e1
      have k2 := iv_kk0 (pc' := pc + 3) (st' := v :: r) I hl ga (.cons (fun q e9 => absurd e9 (n1 q)) gs.tl) kk
      rw [List.map_cons, iv_rv_v n1] at k2
      rw [List.map_cons, iv_v_ra q1]
      exact vk_getf hx hb n2 hS hown (hts _ (g3 hfn)) (fun x h9 => h9) (iv_d3 hcd rfl) k2
    · cases hef
      obtain ⟨ci, j, fs, f1, f2, f3⟩ := iv_gf_s e1
      obtain ⟨C, T, N, g1, g2, g3, g4⟩ := iv_fF f1
      obtain ⟨c1, -⟩ := iv_fC g1
      cases hfn : iv_fn (iv_kf mi) idx with
      | none => exact va_get (D := D) (ci := ci) (fs := fs.map (iv_v ad)) (v := iv_v ad v) hx hb hts c1 hown hK.1 hP k (iv_w_get f2) g1 j g2 (hts _ (g3 hfn)) (fun x h9 => h9) (by rw [List.getElem?_map, f3]; rfl) (iv_d3 hcd rfl) (iv_kk0 I hl ga (.cons ((gh k _ f2) v (List.mem_of_getElem? f3)) gs.tl) kk)
      | some hst => exact va_getN (D := D) (ci := ci) (fs := fs.map (iv_v ad)) (v := iv_v ad v) hx hb hts c1 hown hK.1 hP k (iv_w_get f2) g1 j g2 (va_Nw.use rfl (hK.2.2.2.1 _ (g4 hst hfn))) (fun x h9 => h9) (by rw [List.getElem?_map, f3]; rfl) (iv_d3 hcd rfl) (iv_kk0 I hl ga (.cons ((gh k _ f2) v (List.mem_of_getElem? f3)) gs.tl) kk)
  | putfield idx =>
    obtain ⟨v, r1, rfl, e_1⟩ := iv_1or2_s hop
    obtain ⟨k, r, rfl, e_2⟩ := iv_r_s e_1
    obtain ⟨q, e1, e_3⟩ := Option.bind_eq_some_iff.mp e_2
    cases e_3
    obtain ⟨ci, j, fs, f1, f2, f3, f4, f5, rfl⟩ := iv_pf_s e1
    obtain ⟨C, T, N, g1, g2, g3, g4⟩ := iv_fF f1
    obtain ⟨c1, c2, c3, -, -, -, -, c8, c9, -⟩ := iv_fC g1
    have e9 : (iv_w ad cO h).set k (ad.1 k, .inr (ci, (fs.map (iv_v ad)).set j (iv_v ad v))) = iv_w ad cO (h.set k (.inl (ci, fs.set j v))) := by
      rw [← iv_w_set]
      show _ = (iv_w ad cO h).set k (ad.1 k, .inr (ci, (fs.set j v).map (iv_v ad)))
      rw [List.map_set]
    have gc : iv_gc h.length (.inl (ci, fs.set j v)) := fun u hu => by
      rcases List.mem_or_eq_of_mem_set hu with hu | rfl
      · exact gh k _ f2 u hu
      · exact gs.hd
    obtain ⟨n1, n2⟩ := iv_ok_nf f4 ad
    cases hfn : iv_fn (iv_kf mi) idx with
    | none =>
      cases hfin : iv_fi ci j with
      | false =>
        refine va_put (D := D) (ci := ci) (fs := fs.map (iv_v ad)) (v := iv_v ad v) (ty := iv_ft ci j) hx hb hts c1 (iv_ft ci) c2 c3 hown hK.1 hP hD hS k (iv_w_get f2) g1 j g2 (hts _ (g3 hfn)) (fun x h9 => h9) ((c8 j g2).2.trans hfin) (c2 j g2) n1 n2 (by rw [List.length_map]; exact f3) (iv_d3 hcd rfl) (fun H1 locs1 p1 d1 s1 => ?_)
        rw [e9] at p1 d1
        exact iv_kkS hef I p1 d1 s1 gs.tl.tl gc kk
      | true =>
        have hf : iv_ini mi = true ∧ iv_ow ci = iv_kf mi ∧ iv_fn (iv_kf mi) idx = none := f5.resolve_left (by rw [hfin]; decide)
        refine va_putF (D := D) (ci := ci) (fs := fs.map (iv_v ad)) (v := iv_v ad v) (ty := iv_ft ci j) hx hb hts c1 (iv_ft ci) c2 c3 hown hK.1 hP hD hS k (iv_w_get f2) g1 j g2 (hts _ (g3 hfn)) (fun x h9 => h9) ((c8 j g2).2.trans hfin) (hini hf.1) (((c8 j g2).1 hfin).trans (c9.trans (by rw [hf.2.1]))) (c2 j g2) n1 n2 (by rw [List.length_map]; exact f3) (iv_d3 hcd rfl) (fun H1 locs1 p1 d1 s1 => ?_)
        rw [e9] at p1 d1
        exact iv_kkS hef I p1 d1 s1 gs.tl.tl gc kk
    | some hst =>
      cases hfin : iv_fi ci j with
      | false =>
        refine va_putN (D := D) (ci := ci) (fs := fs.map (iv_v ad)) (v := iv_v ad v) (ty := iv_ft ci j) hx hb hts c1 (iv_ft ci) c2 c3 hown hK.1 hP hD hS k (iv_w_get f2) g1 j g2 (va_Nw.use rfl (hK.2.2.2.1 _ (g4 hst hfn))) (fun x h9 => h9) ((c8 j g2).2.trans hfin) (c2 j g2) n1 n2 (by rw [List.length_map]; exact f3) (iv_d3 hcd rfl) (fun H1 locs1 p1 d1 s1 => ?_)
        rw [e9] at p1 d1
        exact iv_kkS hef I p1 d1 s1 gs.tl.tl gc kk
      | true =>
        rcases f5 with f5 | f5
        · exact absurd (hfin.symm.trans f5) (by decide)
        · rw [f5.2.2] at hfn
          cases hfn
  | new idx =>
    obtain ⟨ci, e1, e_1⟩ := Option.bind_eq_some_iff.mp hop
    cases e_1
    obtain ⟨C, T, N, g1, g2⟩ := iv_fN e1
    obtain ⟨c1, c2, -, c4, c5, c6, c7, -, -, c10⟩ := iv_fC g1
    have hh : h' = h ++ [.inl (ci, iv_df ci)] := (Option.some.inj hef).symm
    have hc1 : cells + 1 ≤ R.cells := by rw [hh] at hrc; simpa using hrc
    have hs1 : slots + N ≤ R.slots := by rw [hh, iv_sz_app] at hrs; have : iv_cz (.inl (ci, iv_df ci)) = N := c6; omega
    have ed : (iv_df ci).map (iv_v ad) = iv_df ci := (List.map_congr_left fun v hv => iv_df_v (c10 v hv) ad).trans (List.map_id _)
    have k2 := fun (q : Nat) (H1 : Heap) (p1 : va_P D iv_cl (iv_w ad cO h ++ [(q, iv_e ad cO (.inl (ci, iv_df ci)))]) H1) (d1 : va_D A (iv_w ad cO h ++ [(q, iv_e ad cO (.inl (ci, iv_df ci)))])) (s1 : va_S A s.heap H1 locs) => iv_kkN (q := q) hef I p1 d1 s1 gs (fun v hv k hk => absurd hk (iv_df_r (c10 v hv) k)) kk
    have ee : iv_e ad cO (.inl (ci, iv_df ci)) = .inr (ci, iv_df ci) := by show Sum.inr (ci, (iv_df ci).map (iv_v ad)) = _; rw [ed]
    rw [ee, show iv_cz (.inl (ci, iv_df ci)) = N from c6] at k2
    exact va_new (ci := ci) (fs := iv_df ci) (D := D) hx hb hts c1 (iv_ft ci) c2 hown (hts _ g2) (hts _ c4) (hts _ c5) hK.1 hP hD hS hA g1 c7 hc1 hs1 (iv_d3 hcd rfl) k2
  | newarray a =>
    obtain ⟨n, r, rfl, e_1⟩ := iv_i_s hop
    split at e_1
    · rename_i hc
      obtain ⟨hc1, hc2, hc3⟩ := hc
      cases e_1
      obtain ⟨w1, w2, w3, w4⟩ := iv_fA hc3
      have hh : h' = h ++ [.inr (iv_tn a, iv_a0 (iv_tn a) n.toNatClampNeg)] := (Option.some.inj hef).symm
      have hz : iv_cz (.inr (iv_tn a, iv_a0 (iv_tn a) n.toNatClampNeg)) = n.toNatClampNeg := by show (iv_a0 _ _).1 = _; unfold iv_a0; split <;> rfl
      have hc1' : cells + 1 ≤ R.cells := by rw [hh] at hrc; simpa using hrc
      have hs1 : slots + n.toNatClampNeg ≤ R.slots := by rw [hh, iv_sz_app] at hrs; omega
      have ee : ∀ cA : ClassId, cA = cO (iv_tn a) → iv_e ad cO (.inr (iv_tn a, iv_a0 (iv_tn a) n.toNatClampNeg)) = .inl (cA, iv_a0 (iv_tn a) n.toNatClampNeg) := by
        intro cA hcA
        subst hcA
        unfold iv_a0
        split <;> rfl
      have gc : iv_gc h.length (.inr (iv_tn a, iv_a0 (iv_tn a) n.toNatClampNeg)) := by
        unfold iv_a0
        split
        · trivial
        · exact fun _ _ => rfl
      refine va_newa (D := D) (a0 := iv_a0 (iv_tn a) n.toNatClampNeg) (N' := n.toNatClampNeg) hx hb (hts _ w1) rfl hK.1 hP hD hS hA (w3 n.toNatClampNeg) (Int32.not_lt.mpr hc1) rfl (w4 _ hc2) hc1' hs1 (iv_d2 hcd rfl) (fun q cA H1 k1 p1 d1 s1 => ?_)
      have hcA := iv_K_new hK w2 k1
      rw [← ee cA hcA] at p1 d1
      have k2 := iv_kkN (q := q) hef I p1 d1 s1 gs.tl gc kk
      rw [hz] at k2
      exact k2
    · cases e_1
  | anewarray idx =>
    obtain ⟨n, r, rfl, e_1⟩ := iv_i_s hop
    obtain ⟨t, e1, e_2⟩ := Option.bind_eq_some_iff.mp e_1
    split at e_2
    · rename_i hc
      obtain ⟨hc1, hc2⟩ := hc
      cases e_2
      obtain ⟨C, w1, w2, w3⟩ := iv_fQ e1
      have hh : h' = h ++ [.inr (t, n.toNatClampNeg, .inr (.inr (.inr (.inr (fun _ => none)))))] := (Option.some.inj hef).symm
      have hc1' : cells + 1 ≤ R.cells := by rw [hh] at hrc; simpa using hrc
      have hs1 : slots + n.toNatClampNeg ≤ R.slots := by rw [hh, iv_sz_app] at hrs; have : iv_cz (.inr (t, n.toNatClampNeg, .inr (.inr (.inr (.inr (fun _ => none)))))) = n.toNatClampNeg := rfl; omega
      refine va_newq (D := D) (C := C) (N' := n.toNatClampNeg) hx hb hown (hts _ w2) (hK.2.1 C w3) hK.1 hP hD hS hA (Int32.not_lt.mpr hc1) rfl (by omega) hc1' hs1 (iv_d3 hcd rfl) (fun q cA H1 k1 p1 d1 s1 => ?_)
      have hcA := iv_K_new hK w1 k1
      subst hcA
      exact iv_kkN (q := q) (cl := .inr (t, n.toNatClampNeg, .inr (.inr (.inr (.inr (fun _ => none)))))) hef I p1 d1 s1 gs.tl (fun j k hk => by cases hk) kk
    · cases e_2
  | arraylength =>
    rcases iv_alen_s hop with ⟨k, r, a, rfl, f1, ⟨ty, f2⟩, rfl⟩ | ⟨k, r, q, rfl, hz, rfl⟩
    · cases hef
      exact va_alen (D := D) (x := iv_a ad a.2) hx hb hK.1 hP k a.1 (iv_w_get f1) (iv_tys_get f2) (by obtain ⟨t, n, f | f | f | f | f⟩ := a <;> rfl) (iv_d1 hcd rfl) (iv_kk0 I hl ga (.cons (iv_g_i _ _) gs.tl) kk)
    · cases hef
      obtain ⟨a, ty, q1, q2, q3, q4⟩ := iv_En_i hE hz
      rw [List.map_cons, iv_v_ra q1]
      exact va_tlen hx hb q3 hS rfl (iv_d1 hcd rfl) (iv_kk0 I hl ga (.cons (iv_g_i _ _) gs.tl) kk)
  | iaload =>
    rcases iv_iald_s hop with ⟨i, k, r, q, rfl, hz, hin, hty, rfl⟩ | hop
    · cases hef
      obtain ⟨a, ty, q1, q2, q3, q4⟩ := iv_En_i hE hz
      cases q2.symm.trans hty
      rw [List.map_cons, List.map_cons, iv_v_ra q1]
      exact va_ti hx hb q3 hS (iv_in_s hin) rfl (iv_d1 hcd rfl) (iv_kk0 I hl ga (.cons (iv_g_i _ _) gs.tl.tl) kk)
    · obtain ⟨i, k, r, t, n, f, rfl, f1, f2, f3, rfl⟩ := iv_ald_s hop
      cases hef
      exact va_iald (D := D) hx hb hK.1 hP k t (iv_w_get f1) (iv_tys_get f3) f2 (iv_d1 hcd rfl) (iv_kk0 I hl ga (.cons (iv_g_i _ _) gs.tl.tl) kk)
  | baload =>
    rcases iv_bald_s hop with ⟨i, k, r, q, rfl, hz, hin, hty, rfl⟩ | hop | hop
    · cases hef
      obtain ⟨a, ty, q1, q2, q3, q4⟩ := iv_En_i hE hz
      cases q2.symm.trans hty
      rw [List.map_cons, List.map_cons, iv_v_ra q1]
      exact va_tb hx hb q3 hS (iv_in_s hin) rfl (iv_d1 hcd rfl) (iv_kk0 I hl ga (.cons (iv_g_i _ _) gs.tl.tl) kk)
    · obtain ⟨i, k, r, t, n, f, rfl, f1, f2, f3, rfl⟩ := iv_ald_s hop
      cases hef
      exact va_bald (D := D) hx hb hK.1 hP k t (iv_w_get f1) (iv_tys_get f3) f2 (iv_d1 hcd rfl) (iv_kk0 I hl ga (.cons (iv_g_i _ _) gs.tl.tl) kk)
    · obtain ⟨i, k, r, t, n, f, rfl, f1, f2, f3, rfl⟩ := iv_ald_s hop
      cases hef
      exact va_zald (D := D) hx hb hK.1 hP k t (iv_w_get f1) (iv_tys_get f3) f2 (iv_d1 hcd rfl) (iv_kk0 I hl ga (.cons (iv_g_i _ _) gs.tl.tl) kk)
  | iastore =>
    obtain ⟨x, i, k, r, t, n, f, rfl, f1, f2, f3, rfl⟩ := iv_ast_s hop
    refine va_iast (D := D) hx hb hK.1 hP hD hS k t (iv_w_get f1) (iv_tys_get f3) f2 (iv_d1 hcd rfl) (fun H1 locs1 p1 d1 s1 => ?_)
    have e9 : (iv_w ad cO h).set k (ad.1 k, .inl (cO t, n, .inl (upd f i.toNatClampNeg (vp_nar .int x)))) = iv_w ad cO (h.set k (.inr (t, n, .inl (upd f i.toNatClampNeg (vp_nar .int x))))) := iv_w_set ad cO h k (.inr (t, n, .inl (upd f i.toNatClampNeg (vp_nar .int x))))
    exact iv_kkS hef I (e9 ▸ p1) (e9 ▸ d1) s1 gs.tl.tl.tl (fun e8 => by subst e8; cases f3) kk
  | bastore =>
    rcases iv_bast_s hop with hop | hop
    · obtain ⟨x, i, k, r, t, n, f, rfl, f1, f2, f3, rfl⟩ := iv_ast_s hop
      refine va_bast (D := D) hx hb hK.1 hP hD hS k t (iv_w_get f1) (iv_tys_get f3) f2 (iv_d1 hcd rfl) (fun H1 locs1 p1 d1 s1 => ?_)
      have e9 : (iv_w ad cO h).set k (ad.1 k, .inl (cO t, n, .inl (upd f i.toNatClampNeg (vp_nar .byte x)))) = iv_w ad cO (h.set k (.inr (t, n, .inl (upd f i.toNatClampNeg (vp_nar .byte x))))) := iv_w_set ad cO h k (.inr (t, n, .inl (upd f i.toNatClampNeg (vp_nar .byte x))))
      exact iv_kkS hef I (e9 ▸ p1) (e9 ▸ d1) s1 gs.tl.tl.tl (fun e8 j => iv_bt_u (gh k _ f1 e8) j) kk
    · obtain ⟨x, i, k, r, t, n, f, rfl, f1, f2, f3, rfl⟩ := iv_ast_s hop
      refine va_zast (D := D) hx hb hK.1 hP hD hS k t (iv_w_get f1) (iv_tys_get f3) f2 (iv_d1 hcd rfl) (fun H1 locs1 p1 d1 s1 => ?_)
      have e9 : (iv_w ad cO h).set k (ad.1 k, .inl (cO t, n, .inl (upd f i.toNatClampNeg (vp_nar .boolean x)))) = iv_w ad cO (h.set k (.inr (t, n, .inl (upd f i.toNatClampNeg (vp_nar .boolean x))))) := iv_w_set ad cO h k (.inr (t, n, .inl (upd f i.toNatClampNeg (vp_nar .boolean x))))
      exact iv_kkS hef I (e9 ▸ p1) (e9 ▸ d1) s1 gs.tl.tl.tl (fun e8 => by subst e8; cases f3) kk
  | laload =>
    obtain ⟨i, r1, rfl, e_1⟩ := iv_i_s hop
    obtain ⟨k, r, rfl, e_2⟩ := iv_r_s e_1
    obtain ⟨q, e1, e_3⟩ := Option.bind_eq_some_iff.mp e_2
    split at e_3
    · rename_i hc
      obtain rfl := iv_pj_s e_3
      cases hef
      exact va_lald (D := D) hx hb hK.1 hP k q.1 (iv_w_get (iv_aj_s e1)) (iv_tys_get (iv_is_s hc.2)) (iv_in_s hc.1) (iv_d1 hcd rfl) (iv_kk0 I hl ga (.cons (iv_g_j _ _) gs.tl.tl) kk)
    · cases e_3
  | lastore =>
    obtain ⟨x, r2, rfl, e_1⟩ := iv_j_s hop
    obtain ⟨i, r1, rfl, e_2⟩ := iv_i_s e_1
    obtain ⟨k, r, rfl, e_3⟩ := iv_r_s e_2
    obtain ⟨q, e1, e_4⟩ := Option.bind_eq_some_iff.mp e_3
    split at e_4
    · rename_i hc
      cases e_4
      refine va_last (D := D) hx hb hK.1 hP hD hS k q.1 (iv_w_get (iv_aj_s e1)) (iv_tys_get (iv_is_s hc.2)) (iv_in_s hc.1) (iv_d1 hcd rfl) (fun H1 locs1 p1 d1 s1 => ?_)
      have e9 : (iv_w ad cO h).set k (ad.1 k, .inl (cO q.1, q.2.1, .inr (.inl (vp_updL q.2.2 i.toNatClampNeg x)))) = iv_w ad cO (h.set k (.inr (q.1, q.2.1, .inr (.inl (vp_updL q.2.2 i.toNatClampNeg x))))) := iv_w_set ad cO h k (.inr (q.1, q.2.1, .inr (.inl (vp_updL q.2.2 i.toNatClampNeg x))))
      exact iv_kkS hef I (e9 ▸ p1) (e9 ▸ d1) s1 gs.tl.tl.tl trivial kk
    · cases e_4
  | aaload =>
    obtain ⟨i, r1, rfl, e_1⟩ := iv_i_s hop
    obtain ⟨k, r, rfl, e_2⟩ := iv_r_s e_1
    obtain ⟨q, e1, e_3⟩ := Option.bind_eq_some_iff.mp e_2
    split at e_3
    · rename_i hc
      split at e_3
      · rename_i b hb2
        cases e_3
        cases hef
        have e9 : va_rf ((q.2.2 i.toNatClampNeg).map (fun k => ad.1 k)) = iv_v ad (.ref b) := by rw [hb2]; rfl
        have k2 := iv_kk0 (pc' := pc + 1) (st' := .ref b :: r) I hl ga (.cons (iv_g_r (gh k _ (iv_aq_s e1) _ _ hb2)) gs.tl.tl) kk
        rw [List.map_cons, ← e9] at k2
        rcases iv_iq_s hc.2 with ⟨C, hC⟩ | ⟨ty, hC⟩
        · exact va_aldq (D := D) hx hb hK.1 hP k q.1 (iv_w_get (iv_aq_s e1)) (iv_tys_get hC) (iv_in_s hc.1) (iv_d1 hcd rfl) k2
        · exact va_aldqa (D := D) hx hb hK.1 hP k q.1 (iv_w_get (iv_aq_s e1)) (iv_tys_get hC) (iv_in_s hc.1) (iv_d1 hcd rfl) k2
      · cases e_3
    · cases e_3
  | aastore =>
    obtain ⟨b, r2, rfl, e_1⟩ := iv_r_s hop
    obtain ⟨i, r1, rfl, e_2⟩ := iv_i_s e_1
    obtain ⟨k, r, rfl, e_3⟩ := iv_r_s e_2
    obtain ⟨q, e1, e_4⟩ := Option.bind_eq_some_iff.mp e_3
    split at e_4
    · rename_i hc
      cases e_4
      obtain ⟨ci, fs, rr, g1, g2, g3⟩ := iv_qc_s hc.2
      refine va_astq (D := D) hx hb hK.1 hP hD hS k q.1 b ci (iv_w_get (iv_aq_s e1)) (iv_tys_get g3) (iv_w_get g1) g2 (iv_in_s hc.1) (iv_d1 hcd rfl) (fun H1 locs1 p1 d1 s1 => ?_)
      have e8 : va_up (fun j => (q.2.2 j).map (fun k => ad.1 k)) i.toNatClampNeg (some (ad.1 b)) = fun j => ((va_up q.2.2 i.toNatClampNeg (some b)) j).map (fun k => ad.1 k) := by
        funext j
        unfold va_up
        split <;> rfl
      have e9 : (iv_w ad cO h).set k (ad.1 k, .inl (cO q.1, q.2.1, .inr (.inr (.inr (.inr (va_up (fun j => (q.2.2 j).map (fun k => ad.1 k)) i.toNatClampNeg (some (ad.1 b)))))))) = iv_w ad cO (h.set k (.inr (q.1, q.2.1, .inr (.inr (.inr (.inr (va_up q.2.2 i.toNatClampNeg (some b)))))))) := by
        rw [e8]
        exact iv_w_set ad cO h k (.inr (q.1, q.2.1, .inr (.inr (.inr (.inr (va_up q.2.2 i.toNatClampNeg (some b)))))))
      refine iv_kkS hef I (e9 ▸ p1) (e9 ▸ d1) s1 gs.tl.tl.tl (fun j x hj => ?_) kk
      unfold va_up at hj
      split at hj
      · cases hj; exact gs.hd _ rfl
      · exact gh k _ (iv_aq_s e1) j x hj
    · cases e_4
  | invokespecial idx =>
    obtain ⟨h1, k, r, rfl, hr8, e_1⟩ := iv_oi_s hop
    cases e_1
    cases hef
    obtain ⟨w1, w2, w3⟩ := iv_fO h1
    obtain ⟨r1, r2⟩ := hR
    refine W.objInit hx hb hown (hts _ w1) (hts _ w2) (hts _ w3) rfl (by rw [hml]; exact hl.1) rfl (iv_d3 hcd rfl) r1 ?_ (iv_kk0 I hl ga gs.tl kk)
    show 2 * 0 + _ + 12 ≤ _
    rw [iv_cats]
    omega
  | invokestatic idx =>
    rcases iv_cpy_s hop with ⟨h1, n, dp, b, sp, v, r, q, u, rfl, f2, hR9, hsrc, e_1⟩ | ⟨h0, h1, y, x, r, rfl, h8, e_1⟩ | ⟨h0, h2, h1, y, x, r, rfl, h8, e_1⟩ | hjc
    · cases e_1
      obtain ⟨w1, w2, w3, w4⟩ := iv_fY h1
      obtain ⟨r1, r2⟩ := hR
      obtain ⟨z1, z2, z3, z4, z5, z8⟩ := iv_cpR_s hR9
      have e9 : (iv_w ad cO h).set b (ad.1 b, .inl (cO u.1, u.2.1, .inl (va_cpy q.2.2 u.2.2 sp.toNatClampNeg dp.toNatClampNeg n.toNatClampNeg))) = iv_w ad cO (h.set b (.inr (u.1, u.2.1, .inl (va_cpy q.2.2 u.2.2 sp.toNatClampNeg dp.toNatClampNeg n.toNatClampNeg)))) := iv_w_set ad cO h b (.inr (u.1, u.2.1, .inl (va_cpy q.2.2 u.2.2 sp.toNatClampNeg dp.toNatClampNeg n.toNatClampNeg)))
      rcases hsrc with ⟨a, rfl, f1, ⟨z6, z7⟩ | ⟨z6, z7⟩⟩ | ⟨a, rfl, f1, z6, z7⟩
      · refine va_copyi (D := D) (ty := .int) hx hb (by rw [hml]; exact hl.1.symm) hown (hts _ w1) (hts _ w2) (hts _ w3) (hts _ w4) hK.1 hP hD hS a b q.1 u.1 (iv_w_get f1) (iv_w_get f2) (iv_tys_get z6) (iv_tys_get z7) rfl z1 z2 z3 z4 z5 (fun _ _ => rfl) r1 (by rw [iv_cats]; have := iv_nfw; omega) (iv_d3 hcd rfl) (fun H1 locs1 p1 d1 s1 => ?_)
        exact iv_kkS hef I (e9 ▸ p1) (e9 ▸ d1) s1 gs.tl.tl.tl.tl.tl (fun e8 => by rw [e8] at z7; cases z7) kk
      · have hq : ∀ j, iv_bt (q.2.2 j) := gh a _ f1 (iv_ty_3 z6)
        refine va_copyi (D := D) (ty := .byte) hx hb (by rw [hml]; exact hl.1.symm) hown (hts _ w1) (hts _ w2) (hts _ w3) (hts _ w4) hK.1 hP hD hS a b q.1 u.1 (iv_w_get f1) (iv_w_get f2) (iv_tys_get z6) (iv_tys_get z7) rfl z1 z2 z3 z4 z5 (fun i _ => iv_bt_f (hq _)) r1 (by rw [iv_cats]; have := iv_nfw; omega) (iv_d3 hcd rfl) (fun H1 locs1 p1 d1 s1 => ?_)
        exact iv_kkS hef I (e9 ▸ p1) (e9 ▸ d1) s1 gs.tl.tl.tl.tl.tl (fun e8 j => iv_bt_c hq (gh b _ f2 e8) j) kk
      · obtain ⟨a', ty, q1, q2, q3, q4⟩ := iv_En_i hE f1
        cases q2.symm.trans z6
        have hq := q4 (iv_ty_3 z6)
        show W p l e R s m args below meth c H locs cells slots Q (F0 m pc ls (.int n :: .int dp :: .ref (ad.1 b) :: .int sp :: iv_v ad (.retAddr a) :: r.map (iv_v ad)))
        rw [iv_v_ra q1]
        refine vk_copyt (D := D) hx hb (by rw [hml]; exact hl.1.symm) hown (hts _ w1) (hts _ w2) (hts _ w3) (hts _ w4) hK.1 hP hD hS q3 b u.1 (iv_w_get f2) (iv_tys_get z7) z1 z2 z3 z4 z5 (fun i _ => iv_bt_f (hq _)) r1 (by rw [iv_cats]; have := iv_nfw; omega) (iv_d3 hcd rfl) (fun H1 locs1 p1 d1 s1 => ?_)
        exact iv_kkS hef I (e9 ▸ p1) (e9 ▸ d1) s1 gs.tl.tl.tl.tl.tl (fun e8 j => iv_bt_c hq (gh b _ f2 e8) j) kk
    · cases e_1
      cases hef
      obtain ⟨w1, w2, w3, w4⟩ := iv_fMm h1
      obtain ⟨r1, r2⟩ := hR
      exact va_mmin hx hb (by rw [hml]; exact hl.1.symm) hown (hts _ w1) (hts _ w2) (hts _ w3) (hts _ w4) r1 (by rw [iv_cats]; omega) (by omega) (by omega) (iv_d3 hcd rfl) (iv_kk0 I hl ga (.cons (iv_g_i _ _) gs.tl.tl) kk)
    · cases e_1
      cases hef
      obtain ⟨w1, w2, w3, w4⟩ := iv_fMx h1
      obtain ⟨r1, r2⟩ := hR
      exact va_mmax hx hb (by rw [hml]; exact hl.1.symm) hown (hts _ w1) (hts _ w2) (hts _ w3) (hts _ w4) r1 (by rw [iv_cats]; omega) (by omega) (by omega) (iv_d3 hcd rfl) (iv_kk0 I hl ga (.cons (iv_g_i _ _) gs.tl.tl) kk)
    · obtain ⟨r, h8, ⟨h1, x, hx9, rfl, rfl⟩ | ⟨h1, x, hx9, rfl, rfl⟩⟩ := id_jc_s hjc
      · cases hef
        obtain ⟨w1, w2, w3⟩ := id_w2 id_ckD hts
        exact vd_dtl hx hb (by rw [hml]; exact hl.1.symm) hown (hts _ (id_fJ h1)) w1 w2 w3 (by omega) (by omega) (by omega) (by omega) hx9 (by rw [iv_cats]; exact h8) (iv_d3 hcd rfl) (iv_kk0 I hl ga (.cons (iv_g_j _ _) gs.tl) kk)
      · cases hef
        obtain ⟨w1, w2, w3⟩ := id_w2 id_ckF hts
        exact vd_fti hx hb (by rw [hml]; exact hl.1.symm) hown (hts _ (id_fJ h1)) w1 w2 w3 (by omega) (by omega) (by omega) (by omega) hx9 (by rw [iv_cats]; exact h8) (iv_d3 hcd rfl) (iv_kk0 I hl ga (.cons (iv_g_i _ _) gs.tl) kk)
  | aconst_null =>
    have hop : some (pc + 1, al, Value.null :: st, (none : iv_F)) = some o := hop
    cases hop
    cases hef
    exact lv_null hx hb (iv_d1 hcd rfl) (iv_kk0 I hl ga (.cons (iv_g_n _) gs) kk)
  | i2c =>
    obtain ⟨x, r, rfl, e_1⟩ := iv_i_s hop
    obtain rfl := iv_pi_s e_1
    cases hef
    exact lv_i2c hx hb (iv_d1 hcd rfl) rfl (iv_kk0 I hl ga (.cons (iv_g_i _ _) gs.tl) kk)
  | ifnull off =>
    rcases iv_ifn_s hop with ⟨k, r, rfl, rfl⟩ | ⟨k, r, rfl, hz, rfl⟩ | ⟨r, t, rfl, ht, rfl⟩
    · cases hef
      exact lv_ifnull hx hb (iv_d3 hcd rfl) (iv_kk0 I hl ga gs.tl kk)
    · cases hef
      obtain ⟨c0, hc0⟩ := Option.isSome_iff_exists.mp hz
      obtain ⟨a, q1, -⟩ := hE.1 k c0 hc0
      rw [List.map_cons, iv_v_ra q1]
      exact lv_ifnull hx hb (iv_d3 hcd rfl) (iv_kk0 I hl ga gs.tl kk)
    · cases hef
      exact lv_ifnullN hx hb (iv_d3 hcd rfl) ht (iv_kk0 I hl ga gs.tl kk)
  | ifnonnull off =>
    rcases iv_inn_s hop with ⟨k, r, t, rfl, ht, rfl⟩ | ⟨k, r, t, rfl, hz, ht, rfl⟩ | ⟨r, rfl, rfl⟩
    · cases hef
      exact lv_ifnonnull hx hb (iv_d3 hcd rfl) ht (iv_kk0 I hl ga gs.tl kk)
    · cases hef
      obtain ⟨c0, hc0⟩ := Option.isSome_iff_exists.mp hz
      obtain ⟨a, q1, -⟩ := hE.1 k c0 hc0
      rw [List.map_cons, iv_v_ra q1]
      exact lv_ifnonnull hx hb (iv_d3 hcd rfl) ht (iv_kk0 I hl ga gs.tl kk)
    · cases hef
      exact lv_ifnonnullN hx hb (iv_d3 hcd rfl) (iv_kk0 I hl ga gs.tl kk)
  | if_acmp cc off =>
    obtain ⟨b, a, r, t, rfl, ht, hc⟩ := iv_acm_s hop
    have hab : (some (ad.1 a) = some (ad.1 b)) ↔ a = b := iv_adr hD (gs.tl _ List.mem_cons_self _ rfl) (gs _ List.mem_cons_self _ rfl)
    show W p l e R s m args below meth c H locs cells slots Q (F0 m pc ls (va_rf (some (ad.1 b)) :: va_rf (some (ad.1 a)) :: r.map (iv_v ad)))
    cases cc with
    | eq =>
      refine lv_acmp_eq hx hb (iv_d3 hcd rfl) ht (fun q => ?_) (fun q => ?_)
      · rcases hc with ⟨hc, rfl⟩ | ⟨hc, rfl⟩
        · cases hef
          exact iv_kk0 I hl ga gs.tl.tl kk
        · exact absurd (hab.mp q) (of_decide_eq_false hc)
      · rcases hc with ⟨hc, rfl⟩ | ⟨hc, rfl⟩
        · exact absurd (hab.mpr (of_decide_eq_true hc)) q
        · cases hef
          exact iv_kk0 I hl ga gs.tl.tl kk
    | ne =>
      refine lv_acmp_ne hx hb (iv_d3 hcd rfl) ht (fun q => ?_) (fun q => ?_)
      · rcases hc with ⟨hc, rfl⟩ | ⟨hc, rfl⟩
        · cases hef
          exact iv_kk0 I hl ga gs.tl.tl kk
        · exact absurd (hab.mpr (Classical.not_not.mp (of_decide_eq_false hc))) q
      · rcases hc with ⟨hc, rfl⟩ | ⟨hc, rfl⟩
        · exact absurd (hab.mp q) (of_decide_eq_true hc)
        · cases hef
          exact iv_kk0 I hl ga gs.tl.tl kk
  | getstatic idx =>
    obtain ⟨k, e1, hk, rfl⟩ := iv_gst_s hop
    cases hef
    have w1 := iv_fS e1
    have hz := hE.2.1 k
    have n1 : ∀ q, iv_sv k ≠ .ref q := fun q => by
      unfold iv_sv
      split <;> exact fun e9 => by cases e9
    have k2 := iv_kk0 (pc' := pc + 3) (st' := iv_sv k :: st) I hl ga (.cons (fun q e9 => absurd e9 (n1 q)) gs) kk
    rw [List.map_cons, iv_rv_v n1] at k2
    exact va_gets hx hb hz hS hown (hts _ w1) (fun x h9 => h9) (iv_d3 hcd rfl) k2
  | checkcast idx =>
    rcases iv_cst_s hop with ⟨k, r, t, a, rfl, e1, f1, rfl, rfl⟩ | ⟨k, r, ci, fs, rfl, e1, f1, rfl⟩
    · cases hef
      obtain ⟨w1, w2⟩ := iv_fK e1
      exact va_castA (D := D) hx hb hown (hts _ w1) hP k (iv_w_get f1) (iv_fcn hK w2) (iv_d3 hcd rfl) (iv_kk0 I hl ga gs kk)
    · cases hef
      obtain ⟨C, T, N, g1, g2⟩ := iv_fN e1
      exact va_castS hx hb hown (hts _ g2) (iv_cat hK g1) (va_recv hK.1 hP g1 (iv_w_get f1)) (iv_d3 hcd rfl) (iv_kk0 I hl ga gs kk)
  | instanceof idx =>
    obtain ⟨k, r, ci, fs, rfl, e1, f1, rfl⟩ := iv_ins_s hop
    cases hef
    obtain ⟨C, T, N, g1, g2⟩ := iv_fN e1
    exact va_instS hx hb hown (hts _ g2) (iv_cat hK g1) (va_recv hK.1 hP g1 (iv_w_get f1)) (iv_d3 hcd rfl) (iv_kk0 I hl ga (.cons (iv_g_i _ _) gs.tl) kk)
  | invokevirtual idx =>
    obtain ⟨k, r, t, n, f, rfl, e1, f1, hn, h8, rfl⟩ := iv_cln_s hop
    obtain ⟨w3, w4, w5, w6, w7, w2⟩ := iv_fCl e1
    obtain ⟨r1, r2⟩ := hR
    have hh : h' = h ++ [.inr (t, n, .inl f)] := (Option.some.inj hef).symm
    have hc1' : cells + 1 ≤ R.cells := by rw [hh] at hrc; simpa using hrc
    have hs1 : slots + n ≤ R.slots := by rw [hh, iv_sz_app] at hrs; have : iv_cz (.inr (t, n, .inl f)) = n := rfl; omega
    have gc : iv_gc h.length (.inr (t, n, .inl f)) := gh k _ f1
    refine va_clone (D := D) (x := (n, .inl f)) (ty := iv_at_ t) (ad := iv_an t) hx hb (by rw [hml]; exact hl.1.symm) hown (hts _ w3) (hts _ w4) (hts _ w5) (hts _ w6) (hts _ w7) (iv_fcs t hK) hK.1 hP hD hS hA k t (iv_w_get f1) (iv_tys_get w2) (iv_fcn hK w2) (fun i v hv => ?_) r1 (by rw [iv_cats]; omega) hc1' hs1 (iv_d3 hcd rfl) (fun q H1 k1 p1 d1 s1 => ?_)
    · exact iv_clf w2 gc hv
    · exact iv_kkN (q := q) (cl := .inr (t, n, .inl f)) hef I p1 d1 s1 gs.tl gc kk
  | _ =>
    have hop : (none : Option iv_O) = some o := hop
    cases hop
end IVS
