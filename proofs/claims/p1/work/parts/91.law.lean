/-! THE CLAIM OUT OF ONE WALK OF THE LAW'S BODY. Your part is whole_start (and what it stands on); all else here is the same for every law, but numbers. -/
def R_law : String := "ZoneSharesLaw"
def lw_P (b : Addr) (xs : List Int32) (args : Array Value) (s : State) : Prop := args = #[.ref b] ∧ s.IntsAt b xs ∧ xs.length ≤ 6 ∧ (Jvm.Cond.and given_1 narrow_1).before args s = true
/-- what a walk over the start with the record d0 says of its end, said of the start itself -/
theorem lw_closed {s t : State} {o : Outcome} {d0 : Drawn} {L : List Loc} {k n : Nat} (hd0 : s.drawn.sameBut d0 lw_cs) (hv : ∃ v, o = .returned v) (hW : (s.setDrawn d0).WarmedH t.vm) (hs : (s.setDrawn d0).sameButNew ({ t with vm := s.vm } : State) L k n) : State.butDraws s t lw_cs (fun t1 => Framed s o t1 L k n) := by
  have h2 : t.drawn = d0 := congrArg State.drawn hs.1
  refine ⟨⟨hv, hW, State.sameButNew.setDrawn hs s.drawn⟩, ?_, by decide⟩
  rw [h2]
  exact hd0
def lw_Q (_ : Array Value) (s : State) (o : Outcome) (t : State) : Prop := o = .returned (some (.int 1)) ∧ State.butDraws s t lw_cs (fun t1 => Framed s o t1 [] 600000 7302250)
def lw_Z (below : List Frame) (a : Array Value) (s : State) : State → Prop := fun t => ∃ o, t.status = .running ∧ Ended t below o ∧ lw_Q a s o t
/-- the law's own end, with 1 on the stack, nothing written that was there before, its room as the claim has it; d0: the record of draws at this point (at the entry s.drawn: begin with 'refine W.base ?_' and 'have hd0 := Drawn.sameBut.refl s.drawn lw_cs') -/
theorem lw_ret {p : Program} {l : Launch} {e : Env} {s : State} {m : MethodId} {below : List Frame} {meth : Method} {c : Code} {b : Nat} {d0 : Drawn} (hd0 : s.drawn.sameBut d0 lw_cs) (hx : p.tables.exec = Jvm.exec) (hb : c.code = code) (hr : meth.sig.returnType = ret) (hlocks : meth.locks = false) {pc : Nat} {H : Heap} {ls : Array Slot} (hdg : decode code pc = .ok (.ireturn, 1)) : W p l e room_1 (s.setDrawn d0) m #[Value.ref b] below meth c H [] 600000 7302250 (lw_Z below #[Value.ref b] s) (F0 m pc ls [.int 1]) := by
  intro T hT X
  obtain ⟨fs, hret, hrun, hended, hW, hframe⟩ := X.leave (v := some (.int 1)) (hlocks := hlocks) (fun h => by rw [hr] at h; cases h)
  have hmeth' : T.vm.method? m = some meth := X.method'
  refine ⟨T.setFrames fs, ?_, .returned (some (.int 1)), hrun, hended, rfl, lw_closed hd0 ⟨_, rfl⟩ hW hframe⟩
  jvm_step X.here [X.here.top, hx, hb, hdg, hmeth', hr, ret, narrow_b1]
  (try refine ⟨rfl, ?_⟩); (try refine ⟨rfl, ?_⟩)
  first | (intro acts; rw [hret _ acts rfl rfl rfl]) | rw [hret _ _ rfl rfl rfl]
  exact Steps.refl _
/-- what holds at the law's entry: the machine, the code, the tables' words (any of lw_tbl by 'hts w (by decide +kernel)'), the script of L ints xs at the cell b, what the Statement gives of the start (any of its parts by flat_of_before) -/
def lw_At (p : Program) (s : State) (m : MethodId) (meth : Method) (c : Code) (b L : Nat) (xs : Nat → Int32) : Prop :=
  p.tables.exec = Jvm.exec ∧ c.code = code ∧ meth.sig.returnType = ret ∧ c.maxLocals = 4 ∧ s.vm.findClass R_law = some m.cls ∧ (∀ w ∈ lw_tbl, w.before #[Value.ref b] s = true) ∧ va_X b L xs s s.heap ∧ b < s.heap.size ∧ meth.locks = false ∧ (Jvm.Cond.and given_1 narrow_1).before #[Value.ref b] s = true
/-! THE LAW FROM ITS ENTRY, by a run of the interpreter -/
theorem iv_Wd_sub {w : Cond} (h : w ∈ iv_Wd) : w ∈ lw_tbl := (List.mem_filter.mp h).1
theorem iv_K0 {s : State} {b : Addr} (hts : ∀ w ∈ lw_tbl, w.before #[Value.ref b] s = true) : ∃ (D : va_G) (cO : Nat → ClassId), iv_K D cO s := by
  have hts' : ∀ w ∈ iv_Wd, w.before #[Value.ref b] s = true := fun w hw => hts w (iv_Wd_sub hw)
  have h1 : ∀ k : Nat, ∃ ci : ClassId × (Nat → Nat), ∀ q : vw_C, iv_cl[k]? = some q → u_Kn s q.1 q.2.1 q.2.2 ci.1 ci.2 := by
    intro k
    cases hk : iv_cl[k]? with
    | none => exact ⟨(0, fun _ => 0), fun q hq => by cases hq⟩
    | some q =>
      obtain ⟨C, T, N⟩ := q
      obtain ⟨c1, -, -, c4, -⟩ := iv_fC hk
      obtain ⟨c, iS, h⟩ := u_known (C := C) (T := T) (N := N) (n := N) hts' c1 (hts' _ c4)
      exact ⟨(c, iS), fun q hq => by cases hq; exact h⟩
  have h2 : ∀ t : Nat, ∃ cA : ClassId, ∀ ty : FieldType, iv_ty[t]? = some ty → ArrOfT s cA ty ∧ va_RA s cA ty := by
    obtain ⟨w1, w2, w3, w4⟩ := iv_ckA_all
    have prim : ∀ ty : FieldType, Cond.arrayClass ty ∈ iv_Wd → (∀ c : ClassId, s.vm.findClass ("[" ++ ty.toString) = some c → va_RA s c ty) → ∃ cA : ClassId, ArrOfT s cA ty ∧ va_RA s cA ty := by
      intro ty hw hr
      obtain ⟨c, k, comp, a1, a2, a3⟩ := Cond.arrayClass_spec (hts' _ hw)
      exact ⟨c, fun n z => ⟨fun k h => (by cases h), k, a2, comp, a3⟩, hr c a1⟩
    have obj : ∀ C : String, C ∈ iv_ao → ∃ cA : ClassId, ArrOfT s cA (.object C) ∧ va_RA s cA (.object C) := by
      intro C hC
      have hw := of_decide_eq_true (List.all_eq_true.mp iv_ckX.2 C hC)
      obtain ⟨comp, c, k, a1, a2, a3, a4, a5⟩ := Cond.arrayOver_spec (hts _ hw)
      exact ⟨c, fun n z => ⟨(fun k h => by cases h), k, a3, comp, a4⟩, k, comp, a3, a4, a1, a5⟩
    intro t
    match t with
    | 0 =>
      obtain ⟨cA, h⟩ := prim .int (iv_wo_s w1) (fun c h => h)
      exact ⟨cA, fun ty hty => by cases hty; exact h⟩
    | 1 =>
      obtain ⟨cA, h⟩ := prim .long (iv_wo_s w2) (fun c h => h)
      exact ⟨cA, fun ty hty => by cases hty; exact h⟩
    | 2 =>
      obtain ⟨cA, h⟩ := prim .boolean (iv_wo_s w3) (fun c h => h)
      exact ⟨cA, fun ty hty => by cases hty; exact h⟩
    | 3 =>
      obtain ⟨cA, h⟩ := prim .byte (iv_wo_s w4) (fun c h => h)
      exact ⟨cA, fun ty hty => by cases hty; exact h⟩
    | 4 =>
      obtain ⟨cA, h⟩ := obj "ZoneShares$Group" (by decide +kernel)
      exact ⟨cA, fun ty hty => by cases hty; exact h⟩
    | 5 =>
      obtain ⟨cA, h⟩ := obj "ZoneShares$State" (by decide +kernel)
      exact ⟨cA, fun ty hty => by cases hty; exact h⟩
    | t + 6 => exact ⟨0, fun ty hty => by simp [iv_ty] at hty⟩
  refine ⟨(fun k => (Classical.choose (h1 k)).1, fun k => (Classical.choose (h1 k)).2), fun t => Classical.choose (h2 t), ⟨fun c q hq => Classical.choose_spec (h1 c) q hq, fun k q hq => ?_⟩, fun C hC => ?_, fun q hq => ?_⟩
  · unfold iv_tys at hq
    rw [List.getElem?_mapIdx] at hq
    cases hk : iv_ty[k]? with
    | none => rw [hk] at hq; cases hq
    | some ty =>
      rw [hk] at hq
      cases hq
      exact Classical.choose_spec (h2 k) ty hk
  · exact va_AO.of (hts _ (of_decide_eq_true (List.all_eq_true.mp iv_ckX.2 C hC)))
  · exact va_Nw.of rfl (hts _ (of_decide_eq_true (List.all_eq_true.mp iv_ckX.1 q hq)))
theorem iv_by_law : iv_by 235 = code := rfl
theorem iv_mx_law : iv_mx 235 = 4 := by decide +kernel
theorem iv_cn_law : iv_cn (iv_kf 235) = R_law := by decide +kernel
theorem iv_ini_law : iv_ini 235 = false := by decide +kernel
set_option maxHeartbeats 2000000 in
theorem iv_start {p : Program} {e : Env} {s : State} {m : MethodId} {below : List Frame} {meth : Method} {c : Code} (l : Launch) {b L : Nat} {xs : Nat → Int32} (C0 : lw_At p s m meth c b L xs) {n d : Nat} {h' : iv_H} (hd : d ≤ 2000) (hrun : iv_run (some (L, xs)) n d 235 (0, iv_en 235 [.retAddr 0], [], []) = some (some (.int 1), h')) (hc : h'.length ≤ 600000) (hs : iv_sz h' ≤ 7302250) : W p l e room_1 s m #[Value.ref b] below meth c s.heap [] 0 0 (lw_Z below #[Value.ref b] s) (entryFrame m ([Value.ref b] : List Value).toArray 4) := by
  obtain ⟨hx, hb, hr, hml, hown, hts, hX, hbl, hlocks, hgv⟩ := id C0
  obtain ⟨D, cO, hK⟩ := iv_K0 hts
  have ad : iv_A := fun _ => b
  obtain ⟨ad, had⟩ : ∃ ad : iv_A, ad = fun _ => b := ⟨_, rfl⟩
  have hbA : ¬ (fun q : Nat => s.heap.size ≤ q) b := Nat.not_le.mpr hbl
  have hSD := iv_sound n (some (L, xs)) d 235 _ _ hrun
  rw [lg_entry_eq]
  have hl0 := lv_entry ([.ref b]) (n := 4) (Nat.le_of_ble_eq_true rfl)
  have hl := iv_lv_sub (l' := iv_ll ad (iv_en 235 [.retAddr 0])) hl0 (fun x hx => by
    obtain ⟨v, h1, h2⟩ := iv_ll_mem.mp hx
    have h3 := iv_ex_sub ad [.retAddr 0] 0 x.1 v (iv_en_get h1)
    rw [Nat.zero_add, ← h2] at h3
    have e1 : ([Value.retAddr 0] : List Value).map (iv_v ad) = [.ref b] := by rw [had]; rfl
    rw [e1] at h3
    exact h3)
  have X : iv_X D cO p s m #[Value.ref b] meth c 235 := ⟨hx, hb.trans iv_by_law.symm, hml.trans iv_mx_law.symm, by rw [iv_cn_law]; exact hown, fun w hw => hts w (iv_Wd_sub hw), fun hi => (by rw [iv_ini_law] at hi; cases hi), hK⟩
  have hP : va_P D iv_cl (iv_w ad cO []) s.heap := fun k q h => by simp [iv_w] at h
  have hD : va_D (fun q : Nat => s.heap.size ≤ q) (iv_w ad cO []) := ⟨fun i j p q h => by simp [iv_w] at h, fun k q h => by simp [iv_w] at h⟩
  refine hSD () (l := l) (e := e) (R := room_1) (below := below) (cells := 0) (slots := 0) (mc := 600000) (ms := 7302250) (A := fun q : Nat => s.heap.size ≤ q) (ad := ad) X ⟨hP, hD, va_S.rf, by rw [iv_mx_law]; exact hl, fun i v hv k hk => ?_, iv_gl_nil _, fun k c h => by simp at h⟩ (fun q h => h) (fun q hq => by cases hq; rw [had]; exact ⟨hX, hbl, hbA⟩) (by show 0 + (h'.length - 0) ≤ 600000; omega) (by show 0 + (iv_sz h' - 0) ≤ 7302250; omega) (Nat.le_refl _) (Nat.le_refl _) (by show d + 1 ≤ 2048; omega) (by show 40 * d + 100 ≤ 84000; omega) ?_
  · have := iv_ex_mem (iv_en_get hv)
    rw [List.mem_singleton] at this
    rw [this] at hk
    cases hk
  · intro ad' H' locs' ls' pc' op st' hcd hre hag hgr p1 d1 s1
    rcases iv_re_v hre with ⟨_, _, hv, _⟩ | ⟨x, ty, rfl, rfl, hv, _⟩ | ⟨x, _, _, hv, _⟩ | ⟨x, ty, _, _, hv, _⟩
    · cases hv
    · cases hv
      refine va_forget (fun q hq => s1.2.2 q hq) ?_
      have hdec := iv_d1 hcd rfl
      rw [iv_by_law] at hdec
      refine W.base ?_
      exact lw_ret (Drawn.sameBut.refl s.drawn lw_cs) hx hb hr hlocks hdec
    · cases hv
    · cases hv
theorem iv_γh_sz : ∀ {h k : iv_H}, iv_γh h k → iv_sz k = iv_sz h
  | [], [], _ => rfl
  | [], _ :: _, g => absurd g.1 (by simp)
  | _ :: _, [], g => absurd g.1 (by simp)
  | a :: h, c :: k, g => by
    have g0 : iv_γc a c := by
      obtain ⟨c', h1, h2⟩ := g.2 0 a rfl
      cases h1
      exact h2
    have gt : iv_γh h k := ⟨by have := g.1; simpa using this, fun i x hx => by
      obtain ⟨c', h1, h2⟩ := g.2 (i + 1) x (by simpa using hx)
      exact ⟨c', by simpa using h1, h2⟩⟩
    show iv_cz c + iv_sz k = iv_cz a + iv_sz h
    rw [iv_γc_z g0, iv_γh_sz gt]
theorem iv_V0_s (ρ : Nat → Int32) : iv_sat ρ iv_V0 := by
  intro k q hq
  have a := Int32.le_toInt (ρ k)
  have b := Int32.toInt_lt (ρ k)
  have hq2 : q = (-2147483648, 2147483647) := by
    match k, hq with
    | 0, hq => cases hq; rfl
    | 1, hq => cases hq; rfl
    | 2, hq => cases hq; rfl
    | 3, hq => cases hq; rfl
    | 4, hq => cases hq; rfl
    | 5, hq => cases hq; rfl
    | k + 6, hq => simp [iv_V0] at hq
  subst hq2
  exact ⟨by simpa using a, by show (ρ k).toInt ≤ 2147483647; omega⟩
theorem iv_τ0 : iv_τ (0, iv_em 9) [] := ⟨rfl, funext fun k => by
  unfold iv_tq
  cases Nat.ble 512 k with
  | true => simp
  | false => show iv_tl 9 (iv_em 9 : iv_Tr iv_C 9) k = _; rw [iv_em_get]; simp⟩
def iv_ends (len : Nat) (xs : Nat → Int32) : Prop := ∃ (n : Nat) (h' : iv_H), iv_run (some (len, xs)) n 12 235 (0, iv_en 235 [.retAddr 0], [], []) = some (some (.int 1), h') ∧ h'.length ≤ 600000 ∧ iv_sz h' ≤ 7302250
theorem iv_chkV_s {len : Nat} {c : Int32} {V : iv_V} (h : iv_chkV len c V = true) (xs : Nat → Int32) (hV : iv_sat xs V) (hc : len = 6 → xs 0 &&& 31 = c) : iv_ends len xs := by
  unfold iv_chkV at h
  split at h
  · rename_i l0 hl0
    obtain ⟨l, hl, hll⟩ := iv_yr_s _ _ _ _ _ _ _ _ _ _ _ hl0 iv_τ0
    obtain ⟨q, m1, -, r, n, k1, k2, -, k4, -⟩ := iv_xr_s _ _ _ _ _ _ _ hl xs (some (len, xs)) (0, iv_en 235 [.retAddr 0], [], []) (fun c' hc' => by cases hc'; exact ⟨rfl, hc⟩) hV rfl (iv_γl_en 235 ⟨rfl, trivial⟩) trivial ⟨rfl, fun i a h => by simp at h⟩ (fun i o h => by simp at h)
    obtain ⟨i, m2⟩ := List.mem_iff_getElem?.mp m1
    obtain ⟨g1, g2⟩ := iv_τl_ix hll
    have hi : i < l.length := (List.getElem?_eq_some_iff.mp m2).1
    have m3 := List.getElem?_eq_getElem (l := l0) (i := i) (by omega)
    obtain ⟨-, v1, v2⟩ := g2 i _ _ m3 m2
    have hq := List.all_eq_true.mp h (l0[i]'(by omega)) (List.getElem_mem _)
    unfold iv_leaf at hq
    simp only [Bool.and_eq_true] at hq
    rw [v1, v2.1] at hq
    obtain ⟨⟨q1, q2⟩, q3⟩ := hq
    have hz := iv_tz_s v2 _ (Nat.le_refl _)
    rw [List.take_length] at hz
    rw [← hz] at q3
    refine ⟨n, r.2, ?_, ?_, ?_⟩
    · rw [k1]
      have e1 : r.1 = some (.int 1) := by
        rw [k2]
        split at q1
        · rename_i x hx
          rw [hx, of_decide_eq_true q1]
        · cases q1
      rw [← e1]
    · rw [← k4.1]; exact Nat.le_of_ble_eq_true q2
    · rw [iv_γh_sz k4]; exact Nat.le_of_ble_eq_true q3
  · cases h
theorem iv_chk_s {len : Nat} {c : Int32} (h : iv_chk len c = true) (xs : Nat → Int32) (hc : len = 6 → xs 0 &&& 31 = c) : iv_ends len xs := iv_chkV_s h xs (iv_V0_s xs) hc
theorem iv_V2_s {ρ : Nat → Int32} {a b c d : Int} (h1 : a ≤ (ρ 1).toInt) (h2 : (ρ 1).toInt ≤ b) (h3 : c ≤ (ρ 2).toInt) (h4 : (ρ 2).toInt ≤ d) : iv_sat ρ (iv_V2 a b c d) := by
  intro k q hq
  match k, hq with
  | 0, hq => exact iv_V0_s ρ 0 q hq
  | 1, hq => cases hq; exact ⟨h1, h2⟩
  | 2, hq => cases hq; exact ⟨h3, h4⟩
  | 3, hq => exact iv_V0_s ρ 3 q hq
  | 4, hq => exact iv_V0_s ρ 4 q hq
  | 5, hq => exact iv_V0_s ρ 5 q hq
  | k + 6, hq => simp [iv_V2] at hq
theorem iv_rg2 (x : Int32) : -2147483648 ≤ x.toInt ∧ x.toInt ≤ 2147483647 := by
  have a := Int32.le_toInt x
  have b := Int32.toInt_lt x
  exact ⟨by simpa using a, by omega⟩
theorem iv_c4 (xs : Nat → Int32) (hc : xs 0 &&& 31 = 4) : iv_ends 6 xs := by
  obtain ⟨a1, a2⟩ := iv_rg2 (xs 1)
  obtain ⟨b1, b2⟩ := iv_rg2 (xs 2)
  by_cases h1 : (xs 1).toInt ≤ -1
  · exact iv_chkV_s iv_eG0 xs (iv_V2_s a1 h1 b1 b2) (fun _ => hc)
  · by_cases h2 : (xs 1).toInt ≤ 1
    · by_cases h3 : (xs 2).toInt ≤ 1
      · exact iv_chkV_s iv_eG1 xs (iv_V2_s (by omega) h2 b1 h3) (fun _ => hc)
      · exact iv_chkV_s iv_eG2 xs (iv_V2_s (by omega) h2 (by omega) b2) (fun _ => hc)
    · exact iv_chkV_s iv_eG3 xs (iv_V2_s (by omega) a2 b1 b2) (fun _ => hc)
theorem iv_c12 (xs : Nat → Int32) (hc : xs 0 &&& 31 = 12) : iv_ends 6 xs := by
  obtain ⟨a1, a2⟩ := iv_rg2 (xs 1)
  obtain ⟨b1, b2⟩ := iv_rg2 (xs 2)
  by_cases g0 : (xs 2).toInt ≤ 0
  · by_cases h1 : (xs 1).toInt ≤ 0
    · exact iv_chkV_s iv_eH0 xs (iv_V2_s a1 h1 b1 g0) (fun _ => hc)
    · by_cases h2 : (xs 1).toInt ≤ 1
      · exact iv_chkV_s iv_eH3 xs (iv_V2_s (by omega) h2 b1 g0) (fun _ => hc)
      · exact iv_chkV_s iv_eH6 xs (iv_V2_s (by omega) a2 b1 g0) (fun _ => hc)
  · by_cases g1 : (xs 2).toInt ≤ 7
    · by_cases h1 : (xs 1).toInt ≤ 0
      · exact iv_chkV_s iv_eH1 xs (iv_V2_s a1 h1 (by omega) g1) (fun _ => hc)
      · by_cases h2 : (xs 1).toInt ≤ 1
        · exact iv_chkV_s iv_eH4 xs (iv_V2_s (by omega) h2 (by omega) g1) (fun _ => hc)
        · exact iv_chkV_s iv_eH7 xs (iv_V2_s (by omega) a2 (by omega) g1) (fun _ => hc)
    · by_cases h1 : (xs 1).toInt ≤ 0
      · exact iv_chkV_s iv_eH2 xs (iv_V2_s a1 h1 (by omega) b2) (fun _ => hc)
      · by_cases h2 : (xs 1).toInt ≤ 1
        · exact iv_chkV_s iv_eH5 xs (iv_V2_s (by omega) h2 (by omega) b2) (fun _ => hc)
        · exact iv_chkV_s iv_eH8 xs (iv_V2_s (by omega) a2 (by omega) b2) (fun _ => hc)
theorem iv_chk6 (xs : Nat → Int32) : ∀ j : Nat, j < 32 → xs 0 &&& 31 = nI j → iv_ends 6 xs := by
  have a := iv_eA
  have b := iv_eB
  have c := iv_eC
  have d := iv_eD
  have e := iv_eE
  have f := iv_eF
  simp only [Bool.and_eq_true] at a b c d e
  obtain ⟨⟨⟨a0, a1⟩, a2⟩, a3⟩ := a
  obtain ⟨⟨⟨⟨⟨b5, b6⟩, b7⟩, b8⟩, b9⟩, b10⟩ := b
  obtain ⟨⟨⟨⟨⟨c11, c13⟩, c14⟩, c15⟩, c16⟩, c17⟩ := c
  obtain ⟨⟨⟨⟨⟨⟨⟨d18, d19⟩, d20⟩, d21⟩, d22⟩, d23⟩, d24⟩, d25⟩ := d
  obtain ⟨⟨⟨⟨⟨-, e27⟩, e28⟩, e29⟩, e30⟩, e31⟩ := e
  intro j hj hx
  by_cases h4 : j = 4
  · subst h4
    exact iv_c4 xs hx
  by_cases h12 : j = 12
  · subst h12
    exact iv_c12 xs hx
  refine iv_chk_s (c := nI j) ?_ xs (fun _ => hx)
  have hk : j = 0 ∨ j = 1 ∨ j = 2 ∨ j = 3 ∨ j = 5 ∨ j = 6 ∨ j = 7 ∨ j = 8 ∨ j = 9 ∨ j = 10 ∨ j = 11 ∨ j = 13 ∨ j = 14 ∨ j = 15 ∨ j = 16 ∨ j = 17 ∨ j = 18 ∨ j = 19 ∨ j = 20 ∨ j = 21 ∨ j = 22 ∨ j = 23 ∨ j = 24 ∨ j = 25 ∨ j = 26 ∨ j = 27 ∨ j = 28 ∨ j = 29 ∨ j = 30 ∨ j = 31 := by omega
  clear hx hj h4 h12
  rcases hk with rfl | rfl | rfl | rfl | rfl | rfl | rfl | rfl | rfl | rfl | rfl | rfl | rfl | rfl | rfl | rfl | rfl | rfl | rfl | rfl | rfl | rfl | rfl | rfl | rfl | rfl | rfl | rfl | rfl | rfl
  · exact a0
  · exact a1
  · exact a2
  · exact a3
  · exact b5
  · exact b6
  · exact b7
  · exact b8
  · exact b9
  · exact b10
  · exact c11
  · exact c13
  · exact c14
  · exact c15
  · exact c16
  · exact c17
  · exact d18
  · exact d19
  · exact d20
  · exact d21
  · exact d22
  · exact d23
  · exact d24
  · exact d25
  · exact f
  · exact e27
  · exact e28
  · exact e29
  · exact e30
  · exact e31
theorem iv_chk5 : ∀ j : Nat, j < 6 → iv_chk j 0 = true := by
  have e := iv_eE
  simp only [Bool.and_eq_true] at e
  obtain ⟨⟨⟨⟨⟨⟨⟨⟨⟨⟨e0, e1⟩, e2⟩, e3⟩, e4⟩, e5⟩, -⟩, -⟩, -⟩, -⟩, -⟩ := e
  intro j hj
  have hk : j = 0 ∨ j = 1 ∨ j = 2 ∨ j = 3 ∨ j = 4 ∨ j = 5 := by omega
  rcases hk with rfl | rfl | rfl | rfl | rfl | rfl
  · exact e0
  · exact e1
  · exact e2
  · exact e3
  · exact e4
  · exact e5
/-- THE LAW, from its entry -/
theorem whole_start {p : Program} {e : Env} {s : State} {m : MethodId} {below : List Frame} {meth : Method} {c : Code} (l : Launch) (hflags : l.flags = flags0) {b L : Nat} {xs : Nat → Int32} (hL : L ≤ 6) (C0 : lw_At p s m meth c b L xs) : W p l e room_1 s m #[Value.ref b] below meth c s.heap [] 0 0 (lw_Z below #[Value.ref b] s) (entryFrame m ([Value.ref b] : List Value).toArray 4) := by
  by_cases h6 : L = 6
  · subst h6
    obtain ⟨j, hj, hx⟩ := pk_andE (xs 0) (m := 31) 5 (by decide)
    obtain ⟨n, h', k1, k2, k3⟩ := iv_chk6 xs j hj hx
    exact iv_start l C0 (by omega) k1 k2 k3
  · obtain ⟨n, h', k1, k2, k3⟩ := iv_chk_s (iv_chk5 L (by omega)) xs (fun h => absurd h h6)
    exact iv_start l C0 (by omega) k1 k2 k3
-- ===== YOUR PART ENDS =====
set_option maxHeartbeats 4000000 in
theorem lw_walk (l : Launch) (hflags : l.flags = flags0) (b : Addr) (xs : List Int32) : MetFree l x (headSpec (Jvm.Cond.code x code maxLocals ret :: tables_1) room_1) (lw_P b xs) (fun _ _ _ _ _ => True) lw_Q := by
  refine MetFree.of_bodyS (code := code) (maxLocals := maxLocals) (ret := ret) (by decide) ?_ ?_
  · intro args s m h hn
    obtain ⟨meth, c, h1, h2, h3, h4, h5, h6, -, -⟩ := Cond.code_spec hn (atoms_spec (ws := Jvm.Cond.code x code maxLocals ret :: tables_1) h _ List.mem_cons_self)
    exact ⟨meth, c, h1, h2, h3, h4, h5, h6⟩
  · intro p e s m args below meth c s₁ B hml0 hP _
    obtain ⟨rfl, hx, hbd, hgv⟩ := hP
    obtain ⟨scr, harrAt, hlist, hof, hsmall⟩ := hx
    obtain ⟨hcb, hkn, -, -⟩ := State.arrayAt?_spec harrAt
    have hown : s.vm.findClass R_law = some m.cls := findClass_of_methodNamed B.named
    have hts0 : ∀ c ∈ (Jvm.Cond.code x code maxLocals ret :: tables_1), c.before #[Value.ref b] s = true := atoms_spec (ws := Jvm.Cond.code x code maxLocals ret :: tables_1) B.pre
    have hts : ∀ w ∈ lw_tbl, w.before #[Value.ref b] s = true := k2_hts_sels lw_privs (fun w hw => hts0 w (List.mem_cons_of_mem _ hw)) lw_privs_ok
    have hml : c.maxLocals = 4 := B.maxLocals_eq (hts0 _ List.mem_cons_self)
    have X₀ : Stand p l e room_1 s m #[Value.ref b] below meth c s₁ [] 0 0 := Stand.of_body B
    have hh0 : s₁.heap = s.heap := by rw [B.state]; rfl
    have hsz : scr.slots.size = xs.length := by rw [← Array.length_toList, hlist, List.length_map]
    have hval : ∀ j : Nat, j < xs.length → scr.slots[j]? = some (.int (xs.getD j 0)) := fun j hj => by
      rw [← Array.getElem?_toList, hlist]
      simp [hj]
    have hbl : b < s.heap.size := (Array.getElem?_eq_some_iff.mp hcb).1
    have hX : va_X b xs.length (fun j => xs.getD j 0) s s.heap := ⟨scr, hcb, hof, hkn, hsz, hval⟩
    have K : W p l e room_1 s m #[Value.ref b] below meth c s₁.heap [] 0 0 (lw_Z below #[Value.ref b] s) (entryFrame m ([Value.ref b] : List Value).toArray 4) := by
      rw [hh0]
      exact whole_start l hflags hbd ⟨B.exec, B.bytes, B.returns, hml, hown, hts, hX, hbl, B.notSynchronized, hgv⟩
    obtain ⟨t, a1, o, b1, b2, b3⟩ := K s₁ rfl X₀
    exact ⟨t, o, a1, b1, b2, b3⟩
theorem lw_pre_spec {args : Array Value} {s : State} (h : (Jvm.Cond.and given_1 narrow_1).before args s = true) (hr : rest_1_c.before args s = true) : ∃ (b : Addr) (xs : List Int32), lw_P b xs args s := by
  have hs := flat_of_before _ h
  have hq := flat_of_before _ hr
  have hc : (Cond.count 1).before args s = true := hs _ (by decide +kernel)
  have harr : (Cond.arrayOf (.arg 0) .int).before args s = true := hs _ (by decide +kernel)
  have hle : (Cond.le (.length (.arg 0)) (.int 6)).before args s = true := hs _ (by decide +kernel)
  have hlen : (Cond.isInt (.length (.arg 0))).before args s = true := hq _ (by decide +kernel)
  have hall : (Cond.all (.arg 0) (.isInt (.elem (.arg 0) (.index 0)))).before args s = true := hq _ (by decide +kernel)
  obtain ⟨b, xs, hb, hx⟩ := State.ints_of_pre rfl harr hlen hall
  have hsm : xs.length < 2 ^ 31 := hx.choose_spec.2.2.2
  have hev : (Term.length (.arg 0)).eval args s none [] s = some (.int xs.length.toInt32) := hx.length_eval hb
  have hv := Cond.le_ints hev (show (Term.int 6).eval args s none [] s = some (.int 6) from rfl)
  have hd : xs.length.toInt32 ≤ 6 := by
    simpa [Cond.before, Cond.holds, hv] using hle
  have hN : xs.length ≤ 6 := (Int32.ofNat_le_ofNat hsm (by decide)).mp (show Int32.ofNat xs.length ≤ Int32.ofNat 6 from hd)
  exact ⟨b, xs, Cond.one_arg hc (show args[0]? = some (.ref b) from hb), hx, hN, h⟩
theorem lw_comes (l : Launch) (hflags : l.flags = flags0) : Comes l x (Jvm.Cond.code x code maxLocals ret :: tables_1) room_1 (fun tb e args s => Calls_1 tb e args s ∧ rest_1 tb e args s ∧ Pre_1 tb e args s)
    (fun _ _ args s o t => lw_Q args s o t) := by
  intro p e ha hc hk s m args below hf hfit hheap happ hpre
  obtain ⟨b, xs, hP⟩ := lw_pre_spec hpre.2.2 hpre.2.1
  obtain ⟨k, o, h1, h2, h3, hQ⟩ := lw_walk l hflags b xs p e ha hc hk s m args below hf ((Spec.applies_iff_loose hf).mp happ).1 hP trivial
  exact ⟨k, o, h1, h2, h3, hQ⟩
theorem lw_frame {s t : State} {o : Outcome} {args : Array Value} (h : State.butDraws s t lw_cs (fun t1 => Framed s o t1 [] 600000 7302250)) :
    State.butDraws s t [Jvm.Choice.named "NaN.bits", Jvm.Choice.named "NaN.copy"] (fun t1 => Framed s o t1 (fieldLocs frame_1_writes args s ++ arrayLocs frame_1_arrays args s ++ staticLocs frame_1_statics s) 600000 7302250) := h
theorem lw_limb (L : Cond) (hL : ∀ (args : Array Value) (s t : State), L.after args s (.returned (some (.int 1))) t = true) :
    ArmFor flags0 classFile x code maxLocals ret World_1 tables_1 room_1 Calls_1 rest_1 Pre_1
      (fun tb e a s o t => postC L tb e a s o t ∧ State.butDraws s t [Jvm.Choice.named "NaN.bits", Jvm.Choice.named "NaN.copy"] (fun t1 => Framed s o t1 (fieldLocs frame_1_writes a s ++ arrayLocs frame_1_arrays a s ++ staticLocs frame_1_statics s) 600000 7302250)) := by
  intro l hflags _ _ p e ha hc hk s m args below hf hfit hheap happ hpre
  obtain ⟨k, o, h1, h2, h3, rfl, hF⟩ := lw_comes l hflags p e ha hc hk s m args below hf hfit hheap happ hpre
  exact ⟨k, _, h1, h2, h3, hL args s _, lw_frame hF⟩
theorem i_vc : Claimed_1_1 ∧ Claimed_1_2 := ⟨lw_limb limb_1_1 (fun args s t => by simp [limb_1_1, Cond.after, Cond.holds, Cond.value]), lw_limb limb_1_2 (fun args s t => Cond.after_iff.mpr (by
  first | (rw [show limb_1_2 = Cond.eq .result (.int 1) from rfl, Cond.eq_ints (x := 1) (y := 1) rfl rfl]; simp; done) | (simp [limb_1_2, Cond.value, Term.eval]; done)))⟩
