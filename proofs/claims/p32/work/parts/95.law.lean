/-! THE CLAIM OUT OF ONE WALK OF THE LAW'S BODY. Your part is whole_start (and what it stands on); all else here is the same for every law, but numbers. -/
def R_law : String := "ZoneSharesLaw"
def lw_P (b : Addr) (xs : List Int32) (args : Array Value) (s : State) : Prop := args = #[.ref b] ∧ s.IntsAt b xs ∧ xs.length ≤ 260 ∧ (Jvm.Cond.and given_1 narrow_1).before args s = true
/-- what a walk over the start with the record d0 says of its end, said of the start itself -/
theorem lw_closed {s t : State} {o : Outcome} {d0 : Drawn} {L : List Loc} {k n : Nat} (hd0 : s.drawn.sameBut d0 lw_cs) (hv : ∃ v, o = .returned v) (hW : (s.setDrawn d0).WarmedH t.vm) (hs : (s.setDrawn d0).sameButNew ({ t with vm := s.vm } : State) L k n) : State.butDraws s t lw_cs (fun t1 => Framed s o t1 L k n) := by
  have h2 : t.drawn = d0 := congrArg State.drawn hs.1
  refine ⟨⟨hv, hW, State.sameButNew.setDrawn hs s.drawn⟩, ?_, by decide⟩
  rw [h2]
  exact hd0
def lw_Q (_ : Array Value) (s : State) (o : Outcome) (t : State) : Prop := o = .returned (some (.int 1)) ∧ State.butDraws s t lw_cs (fun t1 => Framed s o t1 [] 600000 7302250)
def lw_Z (below : List Frame) (a : Array Value) (s : State) : State → Prop := fun t => ∃ o, t.status = .running ∧ Ended t below o ∧ lw_Q a s o t
/-- the law's own end, with 1 on the stack, nothing written that was there before, its room as the claim has it; d0: the record of draws at this point (at the entry s.drawn: begin with 'refine W.base ?_' and 'have hd0 := Drawn.sameBut.refl s.drawn lw_cs') -/
theorem lw_ret {p : Program} {l : Launch} {e : Env} {s : State} {m : MethodId} {below : List Frame} {meth : Method} {c : Code} {b : Nat} {d0 : Drawn} (hd0 : s.drawn.sameBut d0 lw_cs) (hx : p.tables.exec = Jvm.exec) (hb : c.code = code) (hr : meth.sig.returnType = ret) (hlocks : meth.locks = false) {pc : Nat} {H : Heap} {ls : Array Slot} (hdg : decode code pc = .ok (.ireturn, 1)) : W p l e room_1 (s.setDrawn d0) m #[Value.ref b] below meth c H [] 600000 7302250 (lw_Z below #[Value.ref b] s) (F0 m pc ls [.int 1]) := by
  intro T hT X
  obtain ⟨fs, hret, hrun, hended, hW, hframe⟩ := X.leave (v := some (.int 1)) (hlocks := hlocks) (fun h => by rw [hr] at h; cases h)
  have hmeth' : T.vm.method? m = some meth := X.method'
  refine ⟨T.setFrames fs, ?_, .returned (some (.int 1)), hrun, hended, rfl, lw_closed hd0 ⟨_, rfl⟩ hW hframe⟩
  jvm_step X.here [X.here.top, hx, hb, hdg, hmeth', hr, ret, narrow_b1]
  (try refine ⟨rfl, ?_⟩); (try refine ⟨rfl, ?_⟩)
  first | (intro acts; rw [hret _ acts rfl rfl rfl]) | rw [hret _ _ rfl rfl rfl]
  exact Steps.refl _
/-- what holds at the law's entry: the machine, the code, the tables' words (any of lw_tbl by 'hts w (by decide +kernel)'), the script of L ints xs at the cell b, what the Statement gives of the start (any of its parts by flat_of_before) -/
def lw_At (p : Program) (s : State) (m : MethodId) (meth : Method) (c : Code) (b L : Nat) (xs : Nat → Int32) : Prop :=
  p.tables.exec = Jvm.exec ∧ c.code = code ∧ meth.sig.returnType = ret ∧ c.maxLocals = 18 ∧ s.vm.findClass R_law = some m.cls ∧ (∀ w ∈ lw_tbl, w.before #[Value.ref b] s = true) ∧ va_X b L xs s s.heap ∧ b < s.heap.size ∧ meth.locks = false ∧ (Jvm.Cond.and given_1 narrow_1).before #[Value.ref b] s = true
/-- a private method of a class above: it is selected on the lower class too -/
theorem sel_pv {y : MethodName} {D : String} {s : State} {args : Array Value} {c ca : ClassId} {ka : Class} (hy : y.cls ≠ "java/lang/invoke/MethodHandle" ∧ y.cls ≠ "java/lang/invoke/VarHandle") (hc : s.vm.findClass D = some c) (hca : s.vm.findClass y.cls = some ca) (hka : s.vm.classes[ca]? = some ka) (hni : ka.isInterface = false) (hpriv : (Cond.privateMethod y).before args s = true) (hinst : (Cond.instanceMethod y).before args s = true) : (Cond.selects D y y).before args s = true := by
  obtain ⟨mk, methM, hnamed, hmethM, -, -⟩ := Cond.instanceMethod_spec hinst
  have hfound : s.methodFound? y.cls y.name y.desc = some mk := State.methodFound?_of_named hnamed hy
  have hcls : mk.cls = ca := Option.some.inj ((findClass_of_methodNamed hnamed).symm.trans hca)
  have hsel : selectMethod {} s.vm c mk = .method mk := selectMethod_private hmethM (Cond.privateMethod_at hpriv mk methM hnamed hmethM)
  simp only [Cond.before, Cond.holds, Cond.value, hc, hfound, hnamed, hsel, hcls, hka]
  simp; exact hni
def pv_ok (y : MethodName) : Prop := (y.cls ≠ "java/lang/invoke/MethodHandle" ∧ y.cls ≠ "java/lang/invoke/VarHandle") ∧ Cond.privateMethod y ∈ lw_tbl ∧ Cond.instanceMethod y ∈ lw_tbl ∧ y.cls = "java/lang/AbstractStringBuilder"
theorem pv_all : ∀ y ∈ iv_pv, pv_ok y := List.forall_mem_cons.mpr ⟨⟨⟨by decide +kernel, by decide +kernel⟩, List.mem_of_getElem? (i := 751) (by decide +kernel), List.mem_of_getElem? (i := 752) (by decide +kernel), rfl⟩, List.forall_mem_cons.mpr ⟨⟨⟨by decide +kernel, by decide +kernel⟩, List.mem_of_getElem? (i := 755) (by decide +kernel), List.mem_of_getElem? (i := 756) (by decide +kernel), rfl⟩, List.forall_mem_cons.mpr ⟨⟨⟨by decide +kernel, by decide +kernel⟩, List.mem_of_getElem? (i := 1003) (by decide +kernel), List.mem_of_getElem? (i := 1004) (by decide +kernel), rfl⟩, List.forall_mem_cons.mpr ⟨⟨⟨by decide +kernel, by decide +kernel⟩, List.mem_of_getElem? (i := 999) (by decide +kernel), List.mem_of_getElem? (i := 1000) (by decide +kernel), rfl⟩, fun y hy => absurd hy List.not_mem_nil⟩⟩⟩⟩
theorem iv_Wd_ok {s : State} {args : Array Value} (hts : ∀ w ∈ lw_tbl, w.before args s = true) : ∀ w ∈ iv_Wd, w.before args s = true := fun w hw => by
  have hw2 : w ∈ iv_pv.map (fun y => Cond.selects "java/lang/StringBuilder" y y) ++ lw_tbl := (List.mem_filter.mp hw).1
  rcases List.mem_append.mp hw2 with h | h
  · obtain ⟨y, hy, rfl⟩ := List.mem_map.mp h
    obtain ⟨y1, y2, y3, y4⟩ := pv_all y hy
    have sl : (Cond.selects "java/lang/StringBuilder" ⟨"java/lang/AbstractStringBuilder", "isLatin1", "()Z"⟩ ⟨"java/lang/AbstractStringBuilder", "isLatin1", "()Z"⟩).before args s = true := hts _ (List.mem_of_getElem? (i := 784) (by decide +kernel))
    obtain ⟨c, r, m, h1, h2, h3, h4, mk, h5, h6⟩ := Cond.selects_spec sl
    have h7 := findClass_of_methodNamed h3
    exact sel_pv y1 h1 (by rw [y4]; exact h7) h5 h6 (hts _ y2) (hts _ y3)
  · exact hts w h
theorem iv_K0 {s : State} {b : Addr} (hts : ∀ w ∈ lw_tbl, w.before #[Value.ref b] s = true) : ∃ (D : va_G) (cO : Nat → ClassId), iv_K D cO s := by
  have hts' : ∀ w ∈ iv_Wd, w.before #[Value.ref b] s = true := iv_Wd_ok hts
  have h1 : ∀ k : Nat, ∃ ci : ClassId × (Nat → Nat), ∀ q : vw_C, iv_cl[k]? = some q → u_Kn s q.1 q.2.1 q.2.2 ci.1 ci.2 := by
    intro k
    cases hk : iv_cl[k]? with
    | none => exact ⟨(0, fun _ => 0), fun q hq => by cases hq⟩
    | some q =>
      obtain ⟨C, T, N⟩ := q
      obtain ⟨c1, -, -, c4, -⟩ := iv_fC hk
      obtain ⟨c, iS, h⟩ := u_known (C := C) (T := T) (N := N) (n := N) hts' c1 (hts' _ c4)
      exact ⟨(c, iS), fun q hq => by cases hq; exact h⟩
  have h2 : ∀ t : Nat, ∃ cA : ClassId, ∀ ty : FieldType, iv_ty[t]? = some ty → ArrOfT s cA ty ∧ va_RA s cA ty := by
    obtain ⟨w1, w2, w3, w4⟩ := iv_ckA_all
    have prim : ∀ ty : FieldType, Cond.arrayClass ty ∈ iv_Wd → (∀ c : ClassId, s.vm.findClass ("[" ++ ty.toString) = some c → va_RA s c ty) → ∃ cA : ClassId, ArrOfT s cA ty ∧ va_RA s cA ty := by
      intro ty hw hr
      obtain ⟨c, k, comp, a1, a2, a3⟩ := Cond.arrayClass_spec (hts' _ hw)
      exact ⟨c, fun n z => ⟨fun k h => (by cases h), k, a2, comp, a3⟩, hr c a1⟩
    have obj : ∀ C : String, C ∈ iv_ao → ∃ cA : ClassId, ArrOfT s cA (.object C) ∧ va_RA s cA (.object C) := by
      intro C hC
      have hw := of_decide_eq_true (List.all_eq_true.mp iv_ckX.2.2.1 C hC)
      obtain ⟨comp, c, k, a1, a2, a3, a4, a5⟩ := Cond.arrayOver_spec (hts _ hw)
      exact ⟨c, fun n z => ⟨(fun k h => by cases h), k, a3, comp, a4⟩, k, comp, a3, a4, a1, a5⟩
    intro t
    match t with
    | 0 =>
      obtain ⟨cA, h⟩ := prim .int (iv_wo_s w1) (fun c h => h)
      exact ⟨cA, fun ty hty => by cases hty; exact h⟩
    | 1 =>
      obtain ⟨cA, h⟩ := prim .long (iv_wo_s w2) (fun c h => h)
      exact ⟨cA, fun ty hty => by cases hty; exact h⟩
    | 2 =>
      obtain ⟨cA, h⟩ := prim .boolean (iv_wo_s w3) (fun c h => h)
      exact ⟨cA, fun ty hty => by cases hty; exact h⟩
    | 3 =>
      obtain ⟨cA, h⟩ := prim .byte (iv_wo_s w4) (fun c h => h)
      exact ⟨cA, fun ty hty => by cases hty; exact h⟩
    | 4 =>
      obtain ⟨cA, h⟩ := obj "ZoneShares$Group" (by decide +kernel)
      exact ⟨cA, fun ty hty => by cases hty; exact h⟩
    | 5 =>
      obtain ⟨cA, h⟩ := obj "ZoneShares$State" (by decide +kernel)
      exact ⟨cA, fun ty hty => by cases hty; exact h⟩
    | 6 =>
      obtain ⟨comp, c, k, a1, a2, a3, a4, a5⟩ := arrayOverA_spec (hts _ iv_ckX.2.2.2)
      refine ⟨c, fun ty hty => ?_⟩
      cases hty
      exact ⟨fun n z => ⟨(fun k h => by cases h), k, a3, comp, a4⟩, a5⟩
    | t + 7 => exact ⟨0, fun ty hty => by simp [iv_ty] at hty⟩
  refine ⟨(fun k => (Classical.choose (h1 k)).1, fun k => (Classical.choose (h1 k)).2), fun t => Classical.choose (h2 t), ⟨fun c q hq => Classical.choose_spec (h1 c) q hq, fun k q hq => ?_⟩, fun C hC => ?_, fun q hq => ?_, fun q hq => ?_, ?_, ?_, ?_⟩
  · unfold iv_tys at hq
    rw [List.getElem?_mapIdx] at hq
    cases hk : iv_ty[k]? with
    | none => rw [hk] at hq; cases hq
    | some ty =>
      rw [hk] at hq
      cases hq
      exact Classical.choose_spec (h2 k) ty hk
  · exact va_AO.of (hts _ (of_decide_eq_true (List.all_eq_true.mp iv_ckX.2.2.1 C hC)))
  · exact va_Nw.of rfl (hts _ (of_decide_eq_true (List.all_eq_true.mp iv_ckX.1 q hq)))
  · exact va_Nw.of rfl (hts _ (of_decide_eq_true (List.all_eq_true.mp iv_ckX.2.1 q hq)))
  · exact (hts _ iv_ckX.2.2.2 :)
  · exact va_Nw.of rfl (hts _ (List.mem_of_getElem? (i := 1232) (by decide +kernel)))
  · exact va_Nw.of rfl (hts _ (List.mem_of_getElem? (i := 777) (by decide +kernel)))
theorem iv_by_law : iv_by 236 = code := rfl
theorem iv_mx_law : iv_mx 236 = 18 := by decide +kernel
theorem iv_cn_law : iv_cn (iv_kf 236) = R_law := by decide +kernel
theorem iv_ini_law : iv_ini 236 = false := by decide +kernel
/-! THE ENVIRONMENT: the script, the digits, the two texts, the formatter -/
def ls_ck (f i : Nat) : Bool := match iv_ls f i with
  | none => true
  | some k => decide (iv_cn f = "ZoneSharesLaw" ∧ (i = 83 ∧ k = 3 ∨ i = 85 ∧ k = 5))
set_option maxRecDepth 1000000 in
theorem ls_all : iv_tall 16 iv_lsT 0 (fun k => ls_ck (k / 2048) (k % 2048)) = true := by decide +kernel
theorem ls_s {f i k : Nat} (h : iv_ls f i = some k) : iv_cn f = "ZoneSharesLaw" ∧ (i = 83 ∧ k = 3 ∨ i = 85 ∧ k = 5) := by
  have h0 := h
  unfold iv_ls at h0
  have h1 := iv_bif h0
  have a := iv_tls ls_all (iv_blt (iv_bif h1.2).1) (iv_blt h1.1) (iv_t3 h)
  unfold ls_ck at a
  rw [h] at a
  exact of_decide_eq_true a
theorem bt_1 (j : Nat) : iv_bt (dz_1 j) := by
  have q : ∀ r, r < 10 → iv_bt (Int32.ofNat (48 + r)) := by unfold iv_bt; decide +kernel
  exact q (j % 10) (Nat.mod_lt _ (by decide))
theorem bt_2 (j : Nat) : iv_bt (dz_2 j) := by
  have q : ∀ r, r < 10 → iv_bt (Int32.ofNat (48 + r)) := by unfold iv_bt; decide +kernel
  exact q (j / 10 % 10) (Nat.mod_lt _ (by decide))
/-- the read-only things -/
def zr (L : Nat) (xs : Nat → Int32) : iv_Z := fun k => match k with
  | 0 => some (.inr (0, L, .inl xs))
  | 1 => some (.inr (3, 100, .inl dz_1))
  | 2 => some (.inr (3, 100, .inl dz_2))
  | 3 => some (.inl (12, [.retAddr 4, .int (Int32.ofInt 0)]))
  | 4 => some (.inr (3, 1, .inl dz_4))
  | 5 => some (.inl (12, [.retAddr 6, .int (Int32.ofInt 0)]))
  | 6 => some (.inr (3, 0, .inl dz_6))
  | _ => none
def ror (b t1 t2 k3 v4 k5 v6 : Nat) (o : Option Nat) : Nat → Option Nat := fun k => match k with
  | 0 => some b
  | 1 => some t1
  | 2 => some t2
  | 3 => some k3
  | 4 => some v4
  | 5 => some k5
  | 6 => some v6
  | _ => o
theorem zr_dZ {L : Nat} {xs : Nat → Int32} (hL : L ≤ 260) : dZ (zr L xs) L xs := ⟨rfl, by omega, rfl, rfl, rfl, rfl, rfl, rfl⟩
def dgt (n : String) : Term := .static "java/lang/Integer" n "[B"
def nw_ : List Cond := flatC (Jvm.Cond.and given_1 narrow_1)
def dg_c (n : String) (f : Nat → Int32) (i j : Nat) : Bool := decide (nw_[i + j]? = some (Cond.eq (.elem (dgt n) (.int (Int32.ofNat j))) (.int (f j))))
theorem dg_1a : ((List.range 50).all fun j => dg_c "DigitOnes" dz_1 12 j) = true := by decide +kernel
theorem dg_1b : ((List.range 50).all fun j => dg_c "DigitOnes" dz_1 12 (50 + j)) = true := by decide +kernel
theorem dg_2a : ((List.range 50).all fun j => dg_c "DigitTens" dz_2 115 j) = true := by decide +kernel
theorem dg_2b : ((List.range 50).all fun j => dg_c "DigitTens" dz_2 115 (50 + j)) = true := by decide +kernel
theorem dg_s {n : String} {f : Nat → Int32} {i j : Nat} (ha : ((List.range 50).all fun j => dg_c n f i j) = true) (hb : ((List.range 50).all fun j => dg_c n f i (50 + j)) = true) (hj : j < 100) : Cond.eq (.elem (dgt n) (.int (Int32.ofNat j))) (.int (f j)) ∈ flatC (Jvm.Cond.and given_1 narrow_1) := by
  have c : dg_c n f i j = true := by
    by_cases q : j < 50
    · exact List.all_eq_true.mp ha j (List.mem_range.mpr q)
    · have := List.all_eq_true.mp hb (j - 50) (List.mem_range.mpr (by omega))
      rw [show 50 + (j - 50) = j by omega] at this
      exact this
  exact List.mem_of_getElem? (of_decide_eq_true c)
def stt (i : Nat) : Term := .string "ZoneSharesLaw" (if i = 0 then 83 else 85)
theorem iv_env {s : State} {b L : Nat} {xs : Nat → Int32} (hts : ∀ w ∈ lw_tbl, w.before #[Value.ref b] s = true) (hgv : (Jvm.Cond.and given_1 narrow_1).before #[Value.ref b] s = true) (hX : va_X b L xs s s.heap) (hbl : b < s.heap.size) : ∃ ro : Nat → Option Nat, ro 0 = some b ∧ iv_En (zr L xs) ro (fun q : Nat => s.heap.size ≤ q) s s.heap := by
  have g := flat_of_before _ hgv
  have hA : ∀ a : Nat, a < s.heap.size → ¬ (fun q : Nat => s.heap.size ≤ q) a := fun a ha q => absurd ha (Nat.not_lt.mpr q)
  obtain ⟨t1, e1, T1⟩ := va_Tof (tm := dgt "DigitOnes") (ty := .byte) (N := 100) (f := fun j => .int (dz_1 j)) (A := fun q : Nat => s.heap.size ≤ q) (by decide) (g (Cond.arrayOf (dgt "DigitOnes") .byte) (by decide +kernel)) (va_eqt (g (Cond.eq (.length (dgt "DigitOnes")) (.int 100)) (by decide +kernel))) (fun j hj => va_eqt (g _ (dg_s dg_1a dg_1b hj))) hA
  obtain ⟨t2, e2, T2⟩ := va_Tof (tm := dgt "DigitTens") (ty := .byte) (N := 100) (f := fun j => .int (dz_2 j)) (A := fun q : Nat => s.heap.size ≤ q) (by decide) (g (Cond.arrayOf (dgt "DigitTens") .byte) (by decide +kernel)) (va_eqt (g (Cond.eq (.length (dgt "DigitTens")) (.int 100)) (by decide +kernel))) (fun j hj => va_eqt (g _ (dg_s dg_2a dg_2b hj))) hA
  have p2 : ∀ P : Nat → Prop, P 0 → P 1 → ∀ i, i < 2 → P i := fun P h0 h1 i hi => by
    rcases (show i = 0 ∨ i = 1 by omega) with rfl | rfl
    · exact h0
    · exact h1
  obtain ⟨adK, adV, ⟨S1, -⟩, S2⟩ := vk_Sof (N := 2) (tm := stt) (len := [1, 0]) (byt := [[44], []]) (A := fun q : Nat => s.heap.size ≤ q) (s := s) (args := #[Value.ref b]) (p2 _ (by decide) (by decide)) (p2 _ (g _ (by decide +kernel)) (g _ (by decide +kernel))) (p2 _ (g _ (by decide +kernel)) (g _ (by decide +kernel))) (p2 _ (g _ (by decide +kernel)) (g _ (by decide +kernel))) (p2 _ (g _ (by decide +kernel)) (g _ (by decide +kernel))) (p2 _ (fun j hj => by
    have j0 : j = 0 := by
      have : j < 1 := hj
      omega
    subst j0
    exact g _ (by decide +kernel)) (fun j hj => absurd hj (Nat.not_lt_zero j))) (fun i j hi hj hne => by
    rcases (show (i = 0 ∧ j = 1) ∨ (i = 1 ∧ j = 0) by omega) with ⟨rfl, rfl⟩ | ⟨rfl, rfl⟩
    · exact .inl (g _ (by decide +kernel))
    · exact .inr (g _ (by decide +kernel))) hA
  have fm := va_Zqof (args := #[Value.ref b]) (s := s) (C := "jdk/internal/util/Preconditions") (n := "SIOOBE_FORMATTER") (d := "Ljava/util/function/BiFunction;") (A := fun q : Nat => s.heap.size ≤ q) (hts _ (List.mem_of_getElem? (i := 809) (by decide +kernel))) (hts _ (List.mem_of_getElem? (i := 53) (by decide +kernel))) (g _ (by decide +kernel)) hA
  obtain ⟨o, fo⟩ : ∃ o : Option Nat, va_Z "jdk/internal/util/Preconditions" "SIOOBE_FORMATTER" "Ljava/util/function/BiFunction;" (va_rf o) (fun q : Nat => s.heap.size ≤ q) s s.heap := by
    rcases fm with h | ⟨t, h⟩
    · exact ⟨none, h⟩
    · exact ⟨some t, h⟩
  have c0 : Int32.ofInt 0 = 0 := by decide +kernel
  obtain ⟨scr, x1, x2, x3, x4, x5⟩ := hX
  have K0 := S1 0 (by decide)
  have K1 := S1 1 (by decide)
  refine ⟨ror b t1 t2 (adK 0) (adV 0) (adK 1) (adV 1) o, rfl, fun k c hk => ?_, fun k => ?_, fun f i k hk => ?_⟩
  · match k, hk with
    | 0, hk =>
      cases hk
      exact ⟨b, rfl, .int, rfl, ⟨scr, x1, x2, x3, by omega, by rw [x4], x5, hA b hbl⟩, fun h => absurd h (by decide)⟩
    | 1, hk =>
      cases hk
      exact ⟨t1, rfl, .byte, rfl, T1, fun _ => bt_1⟩
    | 2, hk =>
      cases hk
      exact ⟨t2, rfl, .byte, rfl, T2, fun _ => bt_2⟩
    | 3, hk =>
      cases hk
      refine ⟨adK 0, rfl, _, _, _, rfl, K0.1, fun j v hv => ?_⟩
      match j, hv with
      | 0, hv =>
        cases hv
        exact ⟨(fun q h => by cases h), K0.2.2.1⟩
      | 1, hv =>
        cases hv
        refine ⟨(fun q h => by cases h), ?_⟩
        rw [c0]
        exact K0.2.1
      | j + 2, hv => simp at hv
    | 4, hk =>
      cases hk
      refine ⟨adV 0, rfl, .byte, rfl, ?_, fun _ j => by show iv_bt 44; unfold iv_bt; decide⟩
      obtain ⟨cell, y1, y2, y3, y4, y5, y6, y7⟩ := K0.2.2.2
      exact ⟨cell, y1, y2, y3, y4, y5, fun j hj => by
        have j0 : j = 0 := by omega
        subst j0
        exact y6 0 (by decide), y7⟩
    | 5, hk =>
      cases hk
      refine ⟨adK 1, rfl, _, _, _, rfl, K1.1, fun j v hv => ?_⟩
      match j, hv with
      | 0, hv =>
        cases hv
        exact ⟨(fun q h => by cases h), K1.2.2.1⟩
      | 1, hv =>
        cases hv
        refine ⟨(fun q h => by cases h), ?_⟩
        rw [c0]
        exact K1.2.1
      | j + 2, hv => simp at hv
    | 6, hk =>
      cases hk
      refine ⟨adV 1, rfl, .byte, rfl, ?_, fun _ j => by show iv_bt 0; unfold iv_bt; decide⟩
      obtain ⟨cell, y1, y2, y3, y4, y5, y6, y7⟩ := K1.2.2.2
      exact ⟨cell, y1, y2, y3, y4, y5, fun j hj => absurd hj (Nat.not_lt_zero j), y7⟩
    | k + 7, hk => cases hk
  · match k with
    | 0 => exact va_Zof (hts _ (List.mem_of_getElem? (i := 721) (by decide +kernel))) (hts _ (List.mem_of_getElem? (i := 47) (by decide +kernel))) (va_eqi (g _ (by decide +kernel))) hA
    | 1 => exact va_Zof (hts _ (List.mem_of_getElem? (i := 1027) (by decide +kernel))) (hts _ (List.mem_of_getElem? (i := 55) (by decide +kernel))) e1 hA
    | 2 => exact va_Zof (hts _ (List.mem_of_getElem? (i := 1029) (by decide +kernel))) (hts _ (List.mem_of_getElem? (i := 55) (by decide +kernel))) e2 hA
    | k + 3 => exact fo
  · obtain ⟨h1, h2⟩ := ls_s hk
    rcases h2 with ⟨rfl, rfl⟩ | ⟨rfl, rfl⟩
    · exact ⟨adK 0, ",", rfl, by rw [h1]; exact vk_R.of (hts _ (List.mem_of_getElem? (i := 972) (by decide +kernel))) (S2 0 (by decide))⟩
    · exact ⟨adK 1, "", rfl, by rw [h1]; exact vk_R.of (hts _ (List.mem_of_getElem? (i := 973) (by decide +kernel))) (S2 1 (by decide))⟩
set_option maxHeartbeats 2000000 in
theorem iv_start {p : Program} {e : Env} {s : State} {m : MethodId} {below : List Frame} {meth : Method} {c : Code} (l : Launch) {b L : Nat} {xs : Nat → Int32} (C0 : lw_At p s m meth c b L xs) {n d : Nat} {h' : iv_H} (hd : d ≤ 1800) (hrun : iv_run (zr L xs) n d 236 (0, iv_en 236 [.retAddr 0], [], []) = some (some (.int 1), h')) (hc : h'.length ≤ 600000) (hs : iv_sz h' ≤ 7302250) : W p l e room_1 s m #[Value.ref b] below meth c s.heap [] 0 0 (lw_Z below #[Value.ref b] s) (entryFrame m ([Value.ref b] : List Value).toArray 18) := by
  obtain ⟨hx, hb, hr, hml, hown, hts, hX, hbl, hlocks, hgv⟩ := id C0
  obtain ⟨D, cO, hK⟩ := iv_K0 hts
  obtain ⟨ro, ro0, hE⟩ := iv_env hts hgv hX hbl
  obtain ⟨ad, had⟩ : ∃ ad : iv_A, ad = (fun _ => b, ro) := ⟨_, rfl⟩
  have hSD := iv_sound n (zr L xs) d 236 _ _ hrun
  rw [lg_entry_eq]
  have hl0 := lv_entry ([.ref b]) (n := 18) (Nat.le_of_ble_eq_true rfl)
  have hl := iv_lv_sub (l' := iv_ll ad (iv_en 236 [.retAddr 0])) hl0 (fun x hx => by
    obtain ⟨v, h1, h2⟩ := iv_ll_mem.mp hx
    have h3 := iv_ex_sub ad [.retAddr 0] 0 x.1 v (iv_en_get h1)
    rw [Nat.zero_add, ← h2] at h3
    have e1 : ([Value.retAddr 0] : List Value).map (iv_v ad) = [.ref b] := by
      rw [had]
      show [va_rf (ro 0)] = [.ref b]
      rw [ro0]
      rfl
    rw [e1] at h3
    exact h3)
  have X : iv_X D cO p s m #[Value.ref b] meth c 236 := ⟨hx, hb.trans iv_by_law.symm, hml.trans iv_mx_law.symm, by rw [iv_cn_law]; exact hown, iv_Wd_ok hts, fun hi => (by rw [iv_ini_law] at hi; cases hi), hK⟩
  have hP : va_P D iv_cl (iv_w ad cO []) s.heap := fun k q h => by simp [iv_w] at h
  have hD : va_D (fun q : Nat => s.heap.size ≤ q) (iv_w ad cO []) := ⟨fun i j p q h => by simp [iv_w] at h, fun k q h => by simp [iv_w] at h⟩
  refine hSD () (l := l) (e := e) (R := room_1) (below := below) (cells := 0) (slots := 0) (mc := 600000) (ms := 7302250) (A := fun q : Nat => s.heap.size ≤ q) (ad := ad) X ⟨hP, hD, va_S.rf, by rw [iv_mx_law]; exact hl, fun i v hv k hk => ?_, iv_gl_nil _, fun k c h => by simp at h⟩ (fun q h => h) (by show 0 + (h'.length - 0) ≤ 600000; omega) (by show 0 + (iv_sz h' - 0) ≤ 7302250; omega) (Nat.le_refl _) (Nat.le_refl _) (by show d + 6 ≤ 2048; omega) (by show 44 * d + 2000 ≤ 84000; omega) (by rw [had]; exact hE) ?_
  · have := iv_ex_mem (iv_en_get hv)
    rw [List.mem_singleton] at this
    rw [this] at hk
    cases hk
  · intro ad' H' locs' ls' pc' op st' hcd hre hag hgr p1 d1 s1
    rcases iv_re_v hre with ⟨_, _, hv, _⟩ | ⟨x, ty, rfl, rfl, hv, _⟩ | ⟨x, _, _, hv, _⟩ | ⟨x, ty, _, _, hv, _⟩
    · cases hv
    · cases hv
      refine va_forget (fun q hq => s1.2.2 q hq) ?_
      have hdec := iv_d1 hcd rfl
      rw [iv_by_law] at hdec
      refine W.base ?_
      exact lw_ret (Drawn.sameBut.refl s.drawn lw_cs) hx hb hr hlocks hdec
    · cases hv
    · cases hv
theorem whole_start {p : Program} {e : Env} {s : State} {m : MethodId} {below : List Frame} {meth : Method} {c : Code} (l : Launch) (hflags : l.flags = flags0) {b L : Nat} {xs : Nat → Int32} (hL : L ≤ 260) (C0 : lw_At p s m meth c b L xs) : W p l e room_1 s m #[Value.ref b] below meth c s.heap [] 0 0 (lw_Z below #[Value.ref b] s) (entryFrame m ([Value.ref b] : List Value).toArray 18) := by
  obtain ⟨n, h', r, c1, c2⟩ := lw_run (z := zr L xs) (xs := xs) (zr_dZ hL) (by omega)
  exact iv_start l C0 (d := 103) (by decide) r c1 c2
set_option maxHeartbeats 4000000 in
theorem lw_walk (l : Launch) (hflags : l.flags = flags0) (b : Addr) (xs : List Int32) : MetFree l x (headSpec (Jvm.Cond.code x code maxLocals ret :: tables_1) room_1) (lw_P b xs) (fun _ _ _ _ _ => True) lw_Q := by
  refine MetFree.of_bodyS (code := code) (maxLocals := maxLocals) (ret := ret) (by decide) ?_ ?_
  · intro args s m h hn
    obtain ⟨meth, c, h1, h2, h3, h4, h5, h6, -, -⟩ := Cond.code_spec hn (atoms_spec (ws := Jvm.Cond.code x code maxLocals ret :: tables_1) h _ List.mem_cons_self)
    exact ⟨meth, c, h1, h2, h3, h4, h5, h6⟩
  · intro p e s m args below meth c s₁ B hml0 hP _
    obtain ⟨rfl, hx, hbd, hgv⟩ := hP
    obtain ⟨scr, harrAt, hlist, hof, hsmall⟩ := hx
    obtain ⟨hcb, hkn, -, -⟩ := State.arrayAt?_spec harrAt
    have hown : s.vm.findClass R_law = some m.cls := findClass_of_methodNamed B.named
    have hts0 : ∀ c ∈ (Jvm.Cond.code x code maxLocals ret :: tables_1), c.before #[Value.ref b] s = true := atoms_spec (ws := Jvm.Cond.code x code maxLocals ret :: tables_1) B.pre
    have hts : ∀ w ∈ lw_tbl, w.before #[Value.ref b] s = true := k2_hts_sels lw_privs (fun w hw => hts0 w (List.mem_cons_of_mem _ hw)) lw_privs_ok
    have hml : c.maxLocals = 18 := B.maxLocals_eq (hts0 _ List.mem_cons_self)
    have X₀ : Stand p l e room_1 s m #[Value.ref b] below meth c s₁ [] 0 0 := Stand.of_body B
    have hh0 : s₁.heap = s.heap := by rw [B.state]; rfl
    have hsz : scr.slots.size = xs.length := by rw [← Array.length_toList, hlist, List.length_map]
    have hval : ∀ j : Nat, j < xs.length → scr.slots[j]? = some (.int (xs.getD j 0)) := fun j hj => by
      rw [← Array.getElem?_toList, hlist]
      simp [hj]
    have hbl : b < s.heap.size := (Array.getElem?_eq_some_iff.mp hcb).1
    have hX : va_X b xs.length (fun j => xs.getD j 0) s s.heap := ⟨scr, hcb, hof, hkn, hsz, hval⟩
    have K : W p l e room_1 s m #[Value.ref b] below meth c s₁.heap [] 0 0 (lw_Z below #[Value.ref b] s) (entryFrame m ([Value.ref b] : List Value).toArray 18) := by
      rw [hh0]
      exact whole_start l hflags hbd ⟨B.exec, B.bytes, B.returns, hml, hown, hts, hX, hbl, B.notSynchronized, hgv⟩
    obtain ⟨t, a1, o, b1, b2, b3⟩ := K s₁ rfl X₀
    exact ⟨t, o, a1, b1, b2, b3⟩
theorem lw_pre_spec {args : Array Value} {s : State} (h : (Jvm.Cond.and given_1 narrow_1).before args s = true) (hr : rest_1_c.before args s = true) : ∃ (b : Addr) (xs : List Int32), lw_P b xs args s := by
  have hs := flat_of_before _ h
  have hq := flat_of_before _ hr
  have hc : (Cond.count 1).before args s = true := hs _ (by decide +kernel)
  have harr : (Cond.arrayOf (.arg 0) .int).before args s = true := hs _ (by decide +kernel)
  have hle : (Cond.le (.length (.arg 0)) (.int 260)).before args s = true := hs _ (by decide +kernel)
  have hlen : (Cond.isInt (.length (.arg 0))).before args s = true := hq _ (by decide +kernel)
  have hall : (Cond.all (.arg 0) (.isInt (.elem (.arg 0) (.index 0)))).before args s = true := hq _ (by decide +kernel)
  obtain ⟨b, xs, hb, hx⟩ := State.ints_of_pre rfl harr hlen hall
  have hsm : xs.length < 2 ^ 31 := hx.choose_spec.2.2.2
  have hev : (Term.length (.arg 0)).eval args s none [] s = some (.int xs.length.toInt32) := hx.length_eval hb
  have hv := Cond.le_ints hev (show (Term.int 260).eval args s none [] s = some (.int 260) from rfl)
  have hd : xs.length.toInt32 ≤ 260 := by
    simpa [Cond.before, Cond.holds, hv] using hle
  have hN : xs.length ≤ 260 := (Int32.ofNat_le_ofNat hsm (by decide)).mp (show Int32.ofNat xs.length ≤ Int32.ofNat 260 from hd)
  exact ⟨b, xs, Cond.one_arg hc (show args[0]? = some (.ref b) from hb), hx, hN, h⟩
theorem lw_comes (l : Launch) (hflags : l.flags = flags0) : Comes l x (Jvm.Cond.code x code maxLocals ret :: tables_1) room_1 (fun tb e args s => Calls_1 tb e args s ∧ rest_1 tb e args s ∧ Pre_1 tb e args s)
    (fun _ _ args s o t => lw_Q args s o t) := by
  intro p e ha hc hk s m args below hf hfit hheap happ hpre
  obtain ⟨b, xs, hP⟩ := lw_pre_spec hpre.2.2 hpre.2.1
  obtain ⟨k, o, h1, h2, h3, hQ⟩ := lw_walk l hflags b xs p e ha hc hk s m args below hf ((Spec.applies_iff_loose hf).mp happ).1 hP trivial
  exact ⟨k, o, h1, h2, h3, hQ⟩
theorem lw_frame {s t : State} {o : Outcome} {args : Array Value} (h : State.butDraws s t lw_cs (fun t1 => Framed s o t1 [] 600000 7302250)) :
    State.butDraws s t [Jvm.Choice.named "NaN.bits"] (fun t1 => Framed s o t1 (fieldLocs frame_1_writes args s ++ arrayLocs frame_1_arrays args s ++ staticLocs frame_1_statics s) 600000 7302250) := h
theorem lw_limb (L : Cond) (hL : ∀ (args : Array Value) (s t : State), L.after args s (.returned (some (.int 1))) t = true) :
    ArmFor flags0 classFile x code maxLocals ret World_1 tables_1 room_1 Calls_1 rest_1 Pre_1
      (fun tb e a s o t => postC L tb e a s o t ∧ State.butDraws s t [Jvm.Choice.named "NaN.bits"] (fun t1 => Framed s o t1 (fieldLocs frame_1_writes a s ++ arrayLocs frame_1_arrays a s ++ staticLocs frame_1_statics s) 600000 7302250)) := by
  intro l hflags _ _ p e ha hc hk s m args below hf hfit hheap happ hpre
  obtain ⟨k, o, h1, h2, h3, rfl, hF⟩ := lw_comes l hflags p e ha hc hk s m args below hf hfit hheap happ hpre
  exact ⟨k, _, h1, h2, h3, hL args s _, lw_frame hF⟩
theorem i_vc : Claimed_1_1 ∧ Claimed_1_2 := ⟨lw_limb limb_1_1 (fun args s t => by simp [limb_1_1, Cond.after, Cond.holds, Cond.value]), lw_limb limb_1_2 (fun args s t => Cond.after_iff.mpr (by
  first | (rw [show limb_1_2 = Cond.eq .result (.int 1) from rfl, Cond.eq_ints (x := 1) (y := 1) rfl rfl]; simp; done) | (simp [limb_1_2, Cond.value, Term.eval]; done)))⟩
