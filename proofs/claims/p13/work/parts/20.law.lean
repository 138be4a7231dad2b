/-! THE CLAIM OUT OF ONE WALK OF THE LAW'S BODY. Your part is whole_start (and what it stands on); all else here is the same for every law, but numbers. -/
def R_law : String := "ZoneSharesLaw"
def lw_P (b : Addr) (xs : List Int32) (args : Array Value) (s : State) : Prop := args = #[.ref b] ∧ s.IntsAt b xs ∧ xs.length ≤ 3072 ∧ (Jvm.Cond.and given_1 narrow_1).before args s = true
/-- what a walk over the start with the record d0 says of its end, said of the start itself -/
theorem lw_closed {s t : State} {o : Outcome} {d0 : Drawn} {L : List Loc} {k n : Nat} (hd0 : s.drawn.sameBut d0 lw_cs) (hv : ∃ v, o = .returned v) (hW : (s.setDrawn d0).WarmedH t.vm) (hs : (s.setDrawn d0).sameButNew ({ t with vm := s.vm } : State) L k n) : State.butDraws s t lw_cs (fun t1 => Framed s o t1 L k n) := by
  have h2 : t.drawn = d0 := congrArg State.drawn hs.1
  refine ⟨⟨hv, hW, State.sameButNew.setDrawn hs s.drawn⟩, ?_, by decide⟩
  rw [h2]
  exact hd0
def lw_Q (_ : Array Value) (s : State) (o : Outcome) (t : State) : Prop := o = .returned (some (.int 1)) ∧ State.butDraws s t lw_cs (fun t1 => Framed s o t1 [] 600000 7302250)
def lw_Z (below : List Frame) (a : Array Value) (s : State) : State → Prop := fun t => ∃ o, t.status = .running ∧ Ended t below o ∧ lw_Q a s o t
/-- the law's own end, with 1 on the stack, nothing written that was there before, its room as the claim has it; d0: the record of draws at this point (at the entry s.drawn: begin with 'refine W.base ?_' and 'have hd0 := Drawn.sameBut.refl s.drawn lw_cs') -/
theorem lw_ret {p : Program} {l : Launch} {e : Env} {s : State} {m : MethodId} {below : List Frame} {meth : Method} {c : Code} {b : Nat} {d0 : Drawn} (hd0 : s.drawn.sameBut d0 lw_cs) (hx : p.tables.exec = Jvm.exec) (hb : c.code = code) (hr : meth.sig.returnType = ret) (hlocks : meth.locks = false) {pc : Nat} {H : Heap} {ls : Array Slot} (hdg : decode code pc = .ok (.ireturn, 1)) : W p l e room_1 (s.setDrawn d0) m #[Value.ref b] below meth c H [] 600000 7302250 (lw_Z below #[Value.ref b] s) (F0 m pc ls [.int 1]) := by
  intro T hT X
  obtain ⟨fs, hret, hrun, hended, hW, hframe⟩ := X.leave (v := some (.int 1)) (hlocks := hlocks) (fun h => by rw [hr] at h; cases h)
  have hmeth' : T.vm.method? m = some meth := X.method'
  refine ⟨T.setFrames fs, ?_, .returned (some (.int 1)), hrun, hended, rfl, lw_closed hd0 ⟨_, rfl⟩ hW hframe⟩
  jvm_step X.here [X.here.top, hx, hb, hdg, hmeth', hr, ret, narrow_b1]
  (try refine ⟨rfl, ?_⟩); (try refine ⟨rfl, ?_⟩)
  first | (intro acts; rw [hret _ acts rfl rfl rfl]) | rw [hret _ _ rfl rfl rfl]
  exact Steps.refl _
/-- what holds at the law's entry: the machine, the code, the tables' words (any of lw_tbl by 'hts w (by decide +kernel)'), the script of L ints xs at the cell b, what the Statement gives of the start (any of its parts by flat_of_before) -/
def lw_At (p : Program) (s : State) (m : MethodId) (meth : Method) (c : Code) (b L : Nat) (xs : Nat → Int32) : Prop :=
  p.tables.exec = Jvm.exec ∧ c.code = code ∧ meth.sig.returnType = ret ∧ c.maxLocals = 4 ∧ s.vm.findClass R_law = some m.cls ∧ (∀ w ∈ lw_tbl, w.before #[Value.ref b] s = true) ∧ va_X b L xs s s.heap ∧ b < s.heap.size ∧ meth.locks = false ∧ (Jvm.Cond.and given_1 narrow_1).before #[Value.ref b] s = true
theorem iv_Wd_sub {w : Cond} (h : w ∈ iv_Wd) : w ∈ lw_tbl := (List.mem_filter.mp h).1
theorem iv_K0 {s : State} {b : Addr} (hts : ∀ w ∈ lw_tbl, w.before #[Value.ref b] s = true) : ∃ (D : va_G) (cO : Nat → ClassId), iv_K D cO s := by
  have hts' : ∀ w ∈ iv_Wd, w.before #[Value.ref b] s = true := fun w hw => hts w (iv_Wd_sub hw)
  have h1 : ∀ k : Nat, ∃ ci : ClassId × (Nat → Nat), ∀ q : vw_C, iv_cl[k]? = some q → u_Kn s q.1 q.2.1 q.2.2 ci.1 ci.2 := by
    intro k
    cases hk : iv_cl[k]? with
    | none => exact ⟨(0, fun _ => 0), fun q hq => by cases hq⟩
    | some q =>
      obtain ⟨C, T, N⟩ := q
      obtain ⟨c1, -, -, c4, -⟩ := iv_fC hk
      obtain ⟨c, iS, h⟩ := u_known (C := C) (T := T) (N := N) (n := N) hts' c1 (hts' _ c4)
      exact ⟨(c, iS), fun q hq => by cases hq; exact h⟩
  have h2 : ∀ t : Nat, ∃ cA : ClassId, ∀ ty : FieldType, iv_ty[t]? = some ty → ArrOfT s cA ty ∧ va_RA s cA ty := by
    obtain ⟨w1, w2, w3, w4⟩ := iv_ckA_all
    have prim : ∀ ty : FieldType, Cond.arrayClass ty ∈ iv_Wd → (∀ c : ClassId, s.vm.findClass ("[" ++ ty.toString) = some c → va_RA s c ty) → ∃ cA : ClassId, ArrOfT s cA ty ∧ va_RA s cA ty := by
      intro ty hw hr
      obtain ⟨c, k, comp, a1, a2, a3⟩ := Cond.arrayClass_spec (hts' _ hw)
      exact ⟨c, fun n z => ⟨fun k h => (by cases h), k, a2, comp, a3⟩, hr c a1⟩
    have obj : ∀ C : String, C ∈ iv_ao → ∃ cA : ClassId, ArrOfT s cA (.object C) ∧ va_RA s cA (.object C) := by
      intro C hC
      have hw := of_decide_eq_true (List.all_eq_true.mp iv_ckX.2 C hC)
      obtain ⟨comp, c, k, a1, a2, a3, a4, a5⟩ := Cond.arrayOver_spec (hts _ hw)
      exact ⟨c, fun n z => ⟨(fun k h => by cases h), k, a3, comp, a4⟩, k, comp, a3, a4, a1, a5⟩
    intro t
    match t with
    | 0 =>
      obtain ⟨cA, h⟩ := prim .int (iv_wo_s w1) (fun c h => h)
      exact ⟨cA, fun ty hty => by cases hty; exact h⟩
    | 1 =>
      obtain ⟨cA, h⟩ := prim .long (iv_wo_s w2) (fun c h => h)
      exact ⟨cA, fun ty hty => by cases hty; exact h⟩
    | 2 =>
      obtain ⟨cA, h⟩ := prim .boolean (iv_wo_s w3) (fun c h => h)
      exact ⟨cA, fun ty hty => by cases hty; exact h⟩
    | 3 =>
      obtain ⟨cA, h⟩ := prim .byte (iv_wo_s w4) (fun c h => h)
      exact ⟨cA, fun ty hty => by cases hty; exact h⟩
    | 4 =>
      obtain ⟨cA, h⟩ := obj "ZoneShares$Group" (by decide +kernel)
      exact ⟨cA, fun ty hty => by cases hty; exact h⟩
    | 5 =>
      obtain ⟨cA, h⟩ := obj "ZoneShares$State" (by decide +kernel)
      exact ⟨cA, fun ty hty => by cases hty; exact h⟩
    | t + 6 => exact ⟨0, fun ty hty => by simp [iv_ty] at hty⟩
  refine ⟨(fun k => (Classical.choose (h1 k)).1, fun k => (Classical.choose (h1 k)).2), fun t => Classical.choose (h2 t), ⟨fun c q hq => Classical.choose_spec (h1 c) q hq, fun k q hq => ?_⟩, fun C hC => ?_, fun q hq => ?_⟩
  · unfold iv_tys at hq
    rw [List.getElem?_mapIdx] at hq
    cases hk : iv_ty[k]? with
    | none => rw [hk] at hq; cases hq
    | some ty =>
      rw [hk] at hq
      cases hq
      exact Classical.choose_spec (h2 k) ty hk
  · exact va_AO.of (hts _ (of_decide_eq_true (List.all_eq_true.mp iv_ckX.2 C hC)))
  · exact va_Nw.of rfl (hts _ (of_decide_eq_true (List.all_eq_true.mp iv_ckX.1 q hq)))
theorem iv_by_law : iv_by 236 = code := rfl
theorem iv_mx_law : iv_mx 236 = 4 := by decide +kernel
theorem iv_cn_law : iv_cn (iv_kf 236) = R_law := by decide +kernel
theorem iv_ini_law : iv_ini 236 = false := by decide +kernel
set_option maxHeartbeats 2000000 in
theorem iv_start {p : Program} {e : Env} {s : State} {m : MethodId} {below : List Frame} {meth : Method} {c : Code} (l : Launch) {b L : Nat} {xs : Nat → Int32} (C0 : lw_At p s m meth c b L xs) {n d : Nat} {h' : iv_H} (hd : d ≤ 2000) (hrun : iv_run (some (L, xs)) n d 236 (0, iv_en 236 [.retAddr 0], [], []) = some (some (.int 1), h')) (hc : h'.length ≤ 600000) (hs : iv_sz h' ≤ 7302250) : W p l e room_1 s m #[Value.ref b] below meth c s.heap [] 0 0 (lw_Z below #[Value.ref b] s) (entryFrame m ([Value.ref b] : List Value).toArray 4) := by
  obtain ⟨hx, hb, hr, hml, hown, hts, hX, hbl, hlocks, hgv⟩ := id C0
  obtain ⟨D, cO, hK⟩ := iv_K0 hts
  have ad : iv_A := fun _ => b
  obtain ⟨ad, had⟩ : ∃ ad : iv_A, ad = fun _ => b := ⟨_, rfl⟩
  have hbA : ¬ (fun q : Nat => s.heap.size ≤ q) b := Nat.not_le.mpr hbl
  have hSD := iv_sound n (some (L, xs)) d 236 _ _ hrun
  rw [lg_entry_eq]
  have hl0 := lv_entry ([.ref b]) (n := 4) (Nat.le_of_ble_eq_true rfl)
  have hl := iv_lv_sub (l' := iv_ll ad (iv_en 236 [.retAddr 0])) hl0 (fun x hx => by
    obtain ⟨v, h1, h2⟩ := iv_ll_mem.mp hx
    have h3 := iv_ex_sub ad [.retAddr 0] 0 x.1 v (iv_en_get h1)
    rw [Nat.zero_add, ← h2] at h3
    have e1 : ([Value.retAddr 0] : List Value).map (iv_v ad) = [.ref b] := by rw [had]; rfl
    rw [e1] at h3
    exact h3)
  have X : iv_X D cO p s m #[Value.ref b] meth c 236 := ⟨hx, hb.trans iv_by_law.symm, hml.trans iv_mx_law.symm, by rw [iv_cn_law]; exact hown, fun w hw => hts w (iv_Wd_sub hw), fun hi => (by rw [iv_ini_law] at hi; cases hi), hK⟩
  have hP : va_P D iv_cl (iv_w ad cO []) s.heap := fun k q h => by simp [iv_w] at h
  have hD : va_D (fun q : Nat => s.heap.size ≤ q) (iv_w ad cO []) := ⟨fun i j p q h => by simp [iv_w] at h, fun k q h => by simp [iv_w] at h⟩
  have hV : vd_AD (fun q : Nat => s.heap.size ≤ q) s s.heap := va_Zof (hts _ (List.mem_of_getElem? (i := 1478) (by decide +kernel))) (hts _ (iv_Wd_sub (id_wo_s (w := .initialized "java/lang/StrictMath") (by decide +kernel)))) (va_eqi (flat_of_before _ hgv _ (by decide +kernel))) (fun a ha q => absurd ha (Nat.not_lt.mpr q))
  refine hSD () (l := l) (e := e) (R := room_1) (below := below) (cells := 0) (slots := 0) (mc := 600000) (ms := 7302250) (A := fun q : Nat => s.heap.size ≤ q) (ad := ad) X ⟨hP, hD, va_S.rf, by rw [iv_mx_law]; exact hl, fun i v hv k hk => ?_, iv_gl_nil _, fun k c h => by simp at h⟩ (fun q h => h) (fun q hq => by cases hq; rw [had]; exact ⟨hX, hbl, hbA⟩) (by show 0 + (h'.length - 0) ≤ 600000; omega) (by show 0 + (iv_sz h' - 0) ≤ 7302250; omega) (Nat.le_refl _) (Nat.le_refl _) (by show d + 6 ≤ 2048; omega) (by show 40 * d + 2000 ≤ 84000; omega) hV ?_
  · have := iv_ex_mem (iv_en_get hv)
    rw [List.mem_singleton] at this
    rw [this] at hk
    cases hk
  · intro ad' H' locs' ls' pc' op st' hcd hre hag hgr p1 d1 s1
    rcases iv_re_v hre with ⟨_, _, hv, _⟩ | ⟨x, ty, rfl, rfl, hv, _⟩ | ⟨x, _, _, hv, _⟩ | ⟨x, ty, _, _, hv, _⟩
    · cases hv
    · cases hv
      refine va_forget (fun q hq => s1.2.2 q hq) ?_
      have hdec := iv_d1 hcd rfl
      rw [iv_by_law] at hdec
      refine W.base ?_
      exact lw_ret (Drawn.sameBut.refl s.drawn lw_cs) hx hb hr hlocks hdec
    · cases hv
    · cases hv
/-! FROM THE LAW'S ENTRY TO ITS LOOP -/
theorem iv_rc1 {z : iv_Z} {n d mi pc : Nat} {al : iv_L} {st : List Value} {h : iv_H} {op : Jvm.ClassFile.Instr} {c : Nat × List Value × List Value} {q r : Option Value × iv_H} (hcd : iv_cd mi pc = some op) (hr : iv_isr op = false) (hca : iv_ca mi op st h = some c) (hq : iv_run none n d c.1 (0, iv_en c.1 c.2.1, [], h) = some q) (k : iv_run z n (d + 1) mi (pc + 3, al, q.1.toList ++ c.2.2, q.2) = some r) : iv_run z (n + 1) (d + 1) mi (pc, al, st, h) = some r := by
  unfold iv_run
  dsimp only
  rw [hcd]
  dsimp only
  rw [if_neg (by rw [hr]; decide), hca]
  dsimp only
  rw [hq]
  exact k
theorem iv_caI {mi idx mj ci b : Nat} {rest : List Value} {h : iv_H} (k1 : iv_mt (iv_kf mi) idx = some mj) (k2 : iv_na mj = 0) (k3 : iv_rc mj = some ci) (k4 : iv_ini mj = true) (k5 : 1 ≤ iv_mx mj) (ho : iv_oc h b ci = true) (hs : (rest.map fun v => v.category).sum ≤ 8) : iv_ca mi (.invokespecial idx) (.ref b :: rest) h = some (mj, [.ref b], rest) := by
  unfold iv_ca
  show (match iv_mt (iv_kf mi) idx with
    | none => none
    | some mj => _) = _
  rw [k1]
  dsimp only
  rw [k2, if_pos ⟨rfl, rfl, by rw [iv_rx_s k3]; show 0 + 1 ≤ _; omega⟩, if_neg (show ¬ (1 : Nat) = 2 by decide)]
  show (match iv_rc mj with
    | none => none
    | some ci => _) = _
  rw [k3]
  dsimp only
  rw [if_pos ⟨ho, hs, by rw [k4]; rfl, Or.inl rfl⟩]
  rfl
theorem iv_new1 {z : iv_Z} {n d mi pc idx ci q : Nat} {al : iv_L} {st : List Value} {h : iv_H} {r : Option Value × iv_H} (hcd : iv_cd mi pc = some (.new idx)) (hc : iv_nc (iv_kf mi) idx = some ci) (hq : h.length = q) (k : iv_run z n d mi (pc + 3, al, .ref q :: st, h ++ [.inl (ci, iv_df ci)]) = some r) : iv_run z (n + 1) d mi (pc, al, st, h) = some r := by
  subst hq
  refine iv_rs (o := (pc + 3, al, .ref h.length :: st, some (none, .inl (ci, iv_df ci)))) hcd rfl rfl ?_ rfl k
  show (iv_nc (iv_kf mi) idx).bind _ = _
  rw [hc]
  rfl
theorem iv_szb {B : Nat} : ∀ {h : iv_H}, (∀ (k : Nat) (c : iv_C), h[k]? = some c → iv_cz c ≤ B) → iv_sz h ≤ B * h.length
  | [], _ => Nat.zero_le _
  | c :: h, g => by
    have a := g 0 c rfl
    have b := iv_szb (h := h) fun k d hk => g (k + 1) d (by simpa using hk)
    show iv_cz c + iv_sz h ≤ B * (h.length + 1)
    rw [Nat.mul_add, Nat.mul_one]
    omega
theorem fx_szb {σ : fx_S} {h : iv_H} (R : fx_R σ h) : h.length ≤ 600000 ∧ iv_sz h ≤ 7302250 := by
  have hl : h.length = fx_N := R.1
  have hb : ∀ k, k < fx_N → (fx_sh k).2 ≤ 20000 := by decide +kernel
  have a := iv_szb (B := 20000) (h := h) fun k c hk => by
    have hk2 : k < fx_N := by
      have := (List.getElem?_eq_some_iff.mp hk).1
      omega
    obtain ⟨c', e1, e2⟩ := R.2 k hk2
    rw [hk] at e1
    cases e1
    have b := hb k hk2
    match c, e2 with
    | .inl o, e2 =>
      have e3 := e2.1
      rw [e3] at b
      exact b
    | .inr (t, n, .inl f), e2 =>
      have e3 := e2.1
      rw [e3] at b
      exact b
    | .inr (t, n, .inr (.inl f)), e2 =>
      have e3 := e2.1
      rw [e3] at b
      exact b
    | .inr (t, n, .inr (.inr (.inl f))), e2 => exact absurd e2 id
    | .inr (t, n, .inr (.inr (.inr (.inl f)))), e2 => exact absurd e2 id
    | .inr (t, n, .inr (.inr (.inr (.inr f)))), e2 =>
      have e3 := e2.1
      rw [e3] at b
      exact b
  have n1 : fx_N = 246 := rfl
  rw [hl, n1] at a
  omega
theorem fx_start : ∃ h1 h2 : iv_H, iv_run none 20000 99 84 (0, iv_en 84 [.ref 0], [], [.inl (9, iv_df 9)]) = some (none, h1) ∧ h1.length = 215 ∧ iv_run none 20000 99 129 (0, iv_en 129 [.ref 215], [], h1 ++ [.inl (10, iv_df 10)]) = some (none, h2) ∧ fx_R (gx gs0) h2 := by
  have c := fx_ck_t
  unfold fx_ck at c
  split at c
  · rename_i h1 e1
    split at c
    · rename_i h2 e2
      unfold fx_h1 at e1
      split at e1
      · rename_i h3 e3
        cases hb : Nat.beq h3.length 215 with
        | false => rw [hb] at e1; cases e1
        | true =>
          rw [hb] at e1
          cases e1
          unfold fx_h2 at e2
          split at e2
          · rename_i h4 e4
            cases e2
            exact ⟨_, _, e3, Nat.eq_of_beq_eq_true hb, e4, fx_okH_s c⟩
          · cases e2
      · cases e1
    · cases c
  · cases c
set_option maxRecDepth 100000 in
theorem fx_law0 {L : Nat} {xs : Nat → Int32} (hL : L ≤ 3072) : ∃ (n : Nat) (h' : iv_H), iv_run (some (L, xs)) n 100 236 (0, iv_en 236 [.retAddr 0], [], []) = some (some (.int 1), h') ∧ h'.length ≤ 600000 ∧ iv_sz h' ≤ 7302250 := by
  obtain ⟨h1, h2, r1, l1, r2, R⟩ := fx_start
  obtain ⟨τ, E⟩ := run_law (xs := xs) hL
  obtain ⟨m, h', r3, R'⟩ := E h2 R
  have ea : iv_en 236 [.retAddr 0] = [some (.retAddr 0), none, none, none] := by decide +kernel
  have q0 : Int32.ofInt 0 = 0 := kc_0
  rw [← q0] at r3
  refine ⟨max 20000 m + 1 + 1 + 1 + 1 + 1 + 1 + 1 + 1 + 1 + 1, h', ?_, fx_szb R'⟩
  rw [ea]
  refine iv_new1 (ci := 9) (idx := 7) (q := 0) (by decide +kernel) (by decide +kernel) rfl ?_
  refine iv_rs (op := .dup) (o := (4, [some (.retAddr 0), none, none, none], [.ref 0, .ref 0], none)) (by decide +kernel) rfl rfl rfl rfl ?_
  refine iv_rc1 (op := .invokespecial 9) (c := (84, [.ref 0], [.ref 0])) (q := (none, h1)) (by decide +kernel) rfl (iv_caI (ci := 9) (by decide +kernel) (by decide +kernel) (by decide +kernel) (by decide +kernel) (by decide +kernel) (by decide +kernel) (by decide)) (iv_run_up r1 (by omega)) ?_
  refine iv_rs (op := .astore_n 1) (o := (8, [some (.retAddr 0), some (.ref 0), none, none], [], none)) (by decide +kernel) rfl rfl (by show iv_sl 236 1 0 _ = _; unfold iv_sl; rw [mx_236]; rfl) rfl ?_
  refine iv_new1 (ci := 10) (idx := 10) (q := 215) (by decide +kernel) (by decide +kernel) l1 ?_
  refine iv_rs (op := .dup) (o := (12, [some (.retAddr 0), some (.ref 0), none, none], [.ref 215, .ref 215], none)) (by decide +kernel) rfl rfl rfl rfl ?_
  refine iv_rc1 (op := .invokespecial 12) (c := (129, [.ref 215], [.ref 215])) (q := (none, h2)) (by decide +kernel) rfl (iv_caI (ci := 10) (by decide +kernel) (by decide +kernel) (by decide +kernel) (by decide +kernel) (by decide +kernel) (by show iv_oc (h1 ++ [.inl (10, iv_df 10)]) 215 10 = true; unfold iv_oc; rw [List.getElem?_append_right (show h1.length ≤ 215 by omega), l1]; rfl) (by decide)) (iv_run_up r2 (by omega)) ?_
  refine iv_rs (op := .astore_n 2) (o := (16, [some (.retAddr 0), some (.ref 0), some (.ref 215), none], [], none)) (by decide +kernel) rfl rfl (by show iv_sl 236 2 0 _ = _; unfold iv_sl; rw [mx_236]; rfl) rfl ?_
  refine iv_rs (op := .iconst 0) (o := (17, [some (.retAddr 0), some (.ref 0), some (.ref 215), none], [.int (Int32.ofInt 0)], none)) (by decide +kernel) rfl rfl rfl rfl ?_
  refine iv_rs (op := .istore_n 3) (o := (18, [some (.retAddr 0), some (.ref 0), some (.ref 215), some (.int (Int32.ofInt 0))], [], none)) (by decide +kernel) rfl rfl (by show iv_sl 236 3 0 _ = _; unfold iv_sl; rw [mx_236]; rfl) rfl ?_
  exact iv_run_up r3 (by omega)
theorem whole_start {p : Program} {e : Env} {s : State} {m : MethodId} {below : List Frame} {meth : Method} {c : Code} (l : Launch) (hflags : l.flags = flags0) {b L : Nat} {xs : Nat → Int32} (hL : L ≤ 3072) (C0 : lw_At p s m meth c b L xs) : W p l e room_1 s m #[Value.ref b] below meth c s.heap [] 0 0 (lw_Z below #[Value.ref b] s) (entryFrame m ([Value.ref b] : List Value).toArray 4) := by
  obtain ⟨n, h', r, c1, c2⟩ := fx_law0 (xs := xs) hL
  exact iv_start l C0 (d := 100) (by decide) r c1 c2
set_option maxHeartbeats 4000000 in
theorem lw_walk (l : Launch) (hflags : l.flags = flags0) (b : Addr) (xs : List Int32) : MetFree l x (headSpec (Jvm.Cond.code x code maxLocals ret :: tables_1) room_1) (lw_P b xs) (fun _ _ _ _ _ => True) lw_Q := by
  refine MetFree.of_bodyS (code := code) (maxLocals := maxLocals) (ret := ret) (by decide) ?_ ?_
  · intro args s m h hn
    obtain ⟨meth, c, h1, h2, h3, h4, h5, h6, -, -⟩ := Cond.code_spec hn (atoms_spec (ws := Jvm.Cond.code x code maxLocals ret :: tables_1) h _ List.mem_cons_self)
    exact ⟨meth, c, h1, h2, h3, h4, h5, h6⟩
  · intro p e s m args below meth c s₁ B hml0 hP _
    obtain ⟨rfl, hx, hbd, hgv⟩ := hP
    obtain ⟨scr, harrAt, hlist, hof, hsmall⟩ := hx
    obtain ⟨hcb, hkn, -, -⟩ := State.arrayAt?_spec harrAt
    have hown : s.vm.findClass R_law = some m.cls := findClass_of_methodNamed B.named
    have hts0 : ∀ c ∈ (Jvm.Cond.code x code maxLocals ret :: tables_1), c.before #[Value.ref b] s = true := atoms_spec (ws := Jvm.Cond.code x code maxLocals ret :: tables_1) B.pre
    have hts : ∀ w ∈ lw_tbl, w.before #[Value.ref b] s = true := k2_hts_sels lw_privs (fun w hw => hts0 w (List.mem_cons_of_mem _ hw)) lw_privs_ok
    have hml : c.maxLocals = 4 := B.maxLocals_eq (hts0 _ List.mem_cons_self)
    have X₀ : Stand p l e room_1 s m #[Value.ref b] below meth c s₁ [] 0 0 := Stand.of_body B
    have hh0 : s₁.heap = s.heap := by rw [B.state]; rfl
    have hsz : scr.slots.size = xs.length := by rw [← Array.length_toList, hlist, List.length_map]
    have hval : ∀ j : Nat, j < xs.length → scr.slots[j]? = some (.int (xs.getD j 0)) := fun j hj => by
      rw [← Array.getElem?_toList, hlist]
      simp [hj]
    have hbl : b < s.heap.size := (Array.getElem?_eq_some_iff.mp hcb).1
    have hX : va_X b xs.length (fun j => xs.getD j 0) s s.heap := ⟨scr, hcb, hof, hkn, hsz, hval⟩
    have K : W p l e room_1 s m #[Value.ref b] below meth c s₁.heap [] 0 0 (lw_Z below #[Value.ref b] s) (entryFrame m ([Value.ref b] : List Value).toArray 4) := by
      rw [hh0]
      exact whole_start l hflags hbd ⟨B.exec, B.bytes, B.returns, hml, hown, hts, hX, hbl, B.notSynchronized, hgv⟩
    obtain ⟨t, a1, o, b1, b2, b3⟩ := K s₁ rfl X₀
    exact ⟨t, o, a1, b1, b2, b3⟩
theorem lw_pre_spec {args : Array Value} {s : State} (h : (Jvm.Cond.and given_1 narrow_1).before args s = true) (hr : rest_1_c.before args s = true) : ∃ (b : Addr) (xs : List Int32), lw_P b xs args s := by
  have hs := flat_of_before _ h
  have hq := flat_of_before _ hr
  have hc : (Cond.count 1).before args s = true := hs _ (by decide +kernel)
  have harr : (Cond.arrayOf (.arg 0) .int).before args s = true := hs _ (by decide +kernel)
  have hle : (Cond.le (.length (.arg 0)) (.int 3072)).before args s = true := hs _ (by decide +kernel)
  have hlen : (Cond.isInt (.length (.arg 0))).before args s = true := hq _ (by decide +kernel)
  have hall : (Cond.all (.arg 0) (.isInt (.elem (.arg 0) (.index 0)))).before args s = true := hq _ (by decide +kernel)
  obtain ⟨b, xs, hb, hx⟩ := State.ints_of_pre rfl harr hlen hall
  have hsm : xs.length < 2 ^ 31 := hx.choose_spec.2.2.2
  have hev : (Term.length (.arg 0)).eval args s none [] s = some (.int xs.length.toInt32) := hx.length_eval hb
  have hv := Cond.le_ints hev (show (Term.int 3072).eval args s none [] s = some (.int 3072) from rfl)
  have hd : xs.length.toInt32 ≤ 3072 := by
    simpa [Cond.before, Cond.holds, hv] using hle
  have hN : xs.length ≤ 3072 := (Int32.ofNat_le_ofNat hsm (by decide)).mp (show Int32.ofNat xs.length ≤ Int32.ofNat 3072 from hd)
  exact ⟨b, xs, Cond.one_arg hc (show args[0]? = some (.ref b) from hb), hx, hN, h⟩
theorem lw_comes (l : Launch) (hflags : l.flags = flags0) : Comes l x (Jvm.Cond.code x code maxLocals ret :: tables_1) room_1 (fun tb e args s => Calls_1 tb e args s ∧ rest_1 tb e args s ∧ Pre_1 tb e args s)
    (fun _ _ args s o t => lw_Q args s o t) := by
  intro p e ha hc hk s m args below hf hfit hheap happ hpre
  obtain ⟨b, xs, hP⟩ := lw_pre_spec hpre.2.2 hpre.2.1
  obtain ⟨k, o, h1, h2, h3, hQ⟩ := lw_walk l hflags b xs p e ha hc hk s m args below hf ((Spec.applies_iff_loose hf).mp happ).1 hP trivial
  exact ⟨k, o, h1, h2, h3, hQ⟩
theorem lw_frame {s t : State} {o : Outcome} {args : Array Value} (h : State.butDraws s t lw_cs (fun t1 => Framed s o t1 [] 600000 7302250)) :
    State.butDraws s t [Jvm.Choice.named "NaN.bits", Jvm.Choice.named "NaN.copy"] (fun t1 => Framed s o t1 (fieldLocs frame_1_writes args s ++ arrayLocs frame_1_arrays args s ++ staticLocs frame_1_statics s) 600000 7302250) := h
theorem lw_limb (L : Cond) (hL : ∀ (args : Array Value) (s t : State), L.after args s (.returned (some (.int 1))) t = true) :
    ArmFor flags0 classFile x code maxLocals ret World_1 tables_1 room_1 Calls_1 rest_1 Pre_1
      (fun tb e a s o t => postC L tb e a s o t ∧ State.butDraws s t [Jvm.Choice.named "NaN.bits", Jvm.Choice.named "NaN.copy"] (fun t1 => Framed s o t1 (fieldLocs frame_1_writes a s ++ arrayLocs frame_1_arrays a s ++ staticLocs frame_1_statics s) 600000 7302250)) := by
  intro l hflags _ _ p e ha hc hk s m args below hf hfit hheap happ hpre
  obtain ⟨k, o, h1, h2, h3, rfl, hF⟩ := lw_comes l hflags p e ha hc hk s m args below hf hfit hheap happ hpre
  exact ⟨k, _, h1, h2, h3, hL args s _, lw_frame hF⟩
theorem i_vc : Claimed_1_1 ∧ Claimed_1_2 := ⟨lw_limb limb_1_1 (fun args s t => by simp [limb_1_1, Cond.after, Cond.holds, Cond.value]), lw_limb limb_1_2 (fun args s t => Cond.after_iff.mpr (by
  first | (rw [show limb_1_2 = Cond.eq .result (.int 1) from rfl, Cond.eq_ints (x := 1) (y := 1) rfl rfl]; simp; done) | (simp [limb_1_2, Cond.value, Term.eval]; done)))⟩
