/-! A RUN OF THE INTERPRETER IS A RUN OF THE MACHINE -/
theorem iv_GI {ws : List Cond} (h : ∀ w ∈ ws, w ∈ iv_Wd) : GoodIn iv_Wd ws := fun w hw => ⟨h w hw, good_of_word (List.mem_filter.mp (h w hw)).2⟩
def iv_rm (d mc ms : Nat) : Room := { frames := d + 6, cells := mc, slots := ms, locals := 40 * d + 2000 }
def iv_ws (mi : Nat) : List Cond := Cond.code (iv_y mi) (iv_by mi) (iv_mx mi) (iv_rt mi) :: iv_Wd
/-- at a run's end: references are numbers of cells -/
def iv_gr (r : Option Value × iv_H) : Prop := iv_gl r.2.length r.1.toList ∧ iv_gh r.2.length r.2
theorem iv_gl_app {n : Nat} {a b : List Value} (h1 : iv_gl n a) (h2 : iv_gl n b) : iv_gl n (a ++ b) := fun v hv => by
  rcases List.mem_append.mp hv with h | h
  · exact h1 v h
  · exact h2 v h
def iv_Qc (D : va_G) (cO : Nat → ClassId) (A : Nat → Prop) (ad : iv_A) (n : Nat) (r : Option Value × iv_H) : Array Value → State → Outcome → State → Prop := fun _ st oc t =>
  (∃ ad' : iv_A, oc = .returned (r.1.map (iv_v ad')) ∧ iv_ag n ad ad' ∧ iv_gr r ∧ va_P D iv_cl (iv_w ad' cO r.2) t.heap ∧ va_D A (iv_w ad' cO r.2)) ∧ va_F A st t
def iv_Pc (D : va_G) (cO : Nat → ClassId) (ad : iv_A) (vs : List Value) (h : iv_H) (sz : Nat) : Array Value → State → Prop :=
  va_Pc (vs.map (iv_v ad)) (fun U => U.heap.size = sz ∧ va_P D iv_cl (iv_w ad cO h) U.heap ∧ iv_K D cO U ∧ va_D (fun _ => True) (iv_w ad cO h) ∧ vd_AD (va_A (iv_w ad cO h) sz) U U.heap)
theorem iv_Pc_blind {D : va_G} {cO : Nat → ClassId} {ad : iv_A} {vs : List Value} {h : iv_H} {sz : Nat} : FrameBlind (iv_Pc D cO ad vs h sz) := fun _ _ _ _ q => ⟨q.1, q.2.1, q.2.2.1, q.2.2.2.1.blind, q.2.2.2.2.1, va_Z.moved (Vm.Alike.refl _) q.2.2.2.2.2⟩
theorem iv_cat_v (v : Value) : v.category = 1 ∨ v.category = 2 := lv_cat v
theorem iv_ex_sub (ad : iv_A) : ∀ (vs : List Value) (k i : Nat) (v : Value), (iv_ex vs)[i]? = some (some v) → (k + i, iv_v ad v) ∈ lv_args k (vs.map (iv_v ad)) := by
  intro vs
  induction vs with
  | nil => intro k i v h; simp [iv_ex] at h
  | cons a r ih =>
    intro k i v h
    rw [List.map_cons]
    unfold lv_args
    rw [iv_v_cat]
    unfold iv_ex at h
    by_cases hc : a.category = 2
    · rw [if_pos hc] at h ⊢
      match i, h with
      | 0, h => cases h; exact List.mem_cons_self
      | 1, h => cases h
      | i + 2, h =>
        have q := ih (k + 2) i v (by simpa using h)
        rw [show k + (i + 2) = k + 2 + i by omega]
        exact List.mem_cons_of_mem _ q
    · rw [if_neg hc] at h ⊢
      match i, h with
      | 0, h => cases h; exact List.mem_cons_self
      | i + 1, h =>
        have q := ih (k + 1) i v (by simpa using h)
        rw [show k + (i + 1) = k + 1 + i by omega]
        exact List.mem_cons_of_mem _ q
theorem iv_ex_mem {vs : List Value} {i : Nat} {v : Value} (h : (iv_ex vs)[i]? = some (some v)) : v ∈ vs := by
  induction vs generalizing i with
  | nil => simp [iv_ex] at h
  | cons a r ih =>
    unfold iv_ex at h
    split at h
    · match i, h with
      | 0, h => cases h; exact List.mem_cons_self
      | 1, h => cases h
      | i + 2, h => exact List.mem_cons_of_mem _ (ih (i := i) (by simpa using h))
    · match i, h with
      | 0, h => cases h; exact List.mem_cons_self
      | i + 1, h => exact List.mem_cons_of_mem _ (ih (i := i) (by simpa using h))
theorem iv_en_get {mj i : Nat} {vs : List Value} {v : Value} (h : (iv_en mj vs)[i]? = some (some v)) : (iv_ex vs)[i]? = some (some v) := by
  unfold iv_en at h
  by_cases hi : i < (iv_ex vs).length
  · rw [List.getElem?_append_left hi] at h
    exact h
  · rw [List.getElem?_append_right (by omega), List.getElem?_replicate] at h
    split at h <;> cases h
theorem iv_ex_cons (a : Value) (r : List Value) : iv_ex (a :: r) = if a.category = 2 then some a :: none :: iv_ex r else some a :: iv_ex r := rfl
theorem iv_sl_len (ad : iv_A) : ∀ vs : List Value, (lg_sl (vs.map (iv_v ad))).length = (iv_ex vs).length := by
  intro vs
  induction vs with
  | nil => rfl
  | cons a r ih =>
    have e : lg_sl ((a :: r).map (iv_v ad)) = (if (iv_v ad a).category = 2 then [Slot.val (iv_v ad a), .second] else [.val (iv_v ad a)]) ++ lg_sl (r.map (iv_v ad)) := by
      simp [lg_sl]
    rw [e, iv_v_cat, List.length_append, ih, iv_ex_cons]
    split
    · simp only [List.length_cons, List.length_nil]; omega
    · simp only [List.length_cons, List.length_nil]; omega
/-- what a run says of the machine -/
def iv_SD (z : iv_Z) (d mi : Nat) (S : iv_S) (r : Option Value × iv_H) : Prop :=
  Unit → ∀ {p : Program} {l : Launch} {e : Env} {R : Room} {s : State} {m : MethodId} {args : Array Value} {below : List Frame} {meth : Method} {c : Code} {H : Heap} {locs : List Loc} {cells slots mc ms : Nat} {Q : State → Prop} {D : va_G} {cO : Nat → ClassId} {A : Nat → Prop} {ad : iv_A} {ls : Array Slot},
  iv_X D cO p s m args meth c mi → iv_I D cO A s.heap mi ad S.2.1 S.2.2.1 S.2.2.2 H locs ls → (∀ q, s.heap.size ≤ q → A q) →
  (∀ q, z = some q → va_X (ad none) q.1 q.2 s s.heap ∧ ad none < s.heap.size ∧ ¬ A (ad none)) →
  cells + (r.2.length - S.2.2.2.length) ≤ mc → slots + (iv_sz r.2 - iv_sz S.2.2.2) ≤ ms → mc ≤ R.cells → ms ≤ R.slots → d + 6 ≤ R.frames → 40 * d + 2000 ≤ R.locals → vd_AD A s s.heap →
  (∀ (ad' : iv_A) (H' : Heap) (locs' : List Loc) (ls' : Array Slot) (pc' : Nat) (op : Jvm.ClassFile.Instr) (st' : List Value), iv_cd mi pc' = some op → iv_re mi op st' = some r.1 → iv_ag S.2.2.2.length ad ad' → iv_gr r → va_P D iv_cl (iv_w ad' cO r.2) H' → va_D A (iv_w ad' cO r.2) → va_S A s.heap H' locs' → W p l e R s m args below meth c H' locs' mc ms Q (F0 m pc' ls' (st'.map (iv_v ad')))) →
  W p l e R s m args below meth c H locs cells slots Q (F0 m S.1 ls (S.2.2.1.map (iv_v ad)))
theorem iv_re_v {mi : Nat} {op : Jvm.ClassFile.Instr} {st : List Value} {v : Option Value} (h : iv_re mi op st = some v) : (op = .return_ ∧ st = [] ∧ v = none ∧ iv_rt mi = none) ∨ (∃ x ty, op = .ireturn ∧ st = [.int x] ∧ v = some (.int x) ∧ iv_rt mi = some ty ∧ iv_ok ty (.int x) = true) ∨ (∃ x, op = .lreturn ∧ st = [.long x] ∧ v = some (.long x) ∧ iv_rt mi = some .long) ∨ (∃ x ty, op = .areturn ∧ st = [.ref x] ∧ v = some (.ref x) ∧ iv_rt mi = some ty ∧ ((∃ n, ty = .object n) ∨ ∃ t, ty = .array t)) := by
  unfold iv_re at h
  split at h
  · split at h
    · split at h
      · cases h; exact Or.inl ⟨rfl, rfl, rfl, by assumption⟩
      · cases h
    · cases h
  · split at h
    · split at h
      · rename_i x hr
        cases h
        unfold iv_ro at hr
        split at hr
        · rename_i ty hty
          exact Or.inr (Or.inl ⟨x, ty, rfl, rfl, rfl, hty, hr⟩)
        · cases hr
      · cases h
    · cases h
  · split at h
    · split at h
      · rename_i x hr
        cases h
        unfold iv_ro at hr
        split at hr
        · rename_i ty hty
          cases ty with
          | long => exact Or.inr (Or.inr (Or.inl ⟨x, rfl, rfl, rfl, hty⟩))
          | _ => cases hr
        · cases hr
      · cases h
    · cases h
  · split at h
    · split at h
      · rename_i x hr
        cases h
        unfold iv_rq at hr
        split at hr
        · rename_i n hty
          exact Or.inr (Or.inr (Or.inr ⟨x, _, rfl, rfl, rfl, hty, Or.inl ⟨n, rfl⟩⟩))
        · rename_i n hty
          exact Or.inr (Or.inr (Or.inr ⟨x, _, rfl, rfl, rfl, hty, Or.inr ⟨n, rfl⟩⟩))
        · cases hr
      · cases h
    · cases h
  · cases h
theorem iv_d1' {mi pc : Nat} {op : Jvm.ClassFile.Instr} (h : iv_cd mi pc = some op) (e : iv_n op = 1) : decode (iv_by mi) pc = .ok (op, 1) := iv_d1 h e
set_option maxHeartbeats 2000000 in
theorem iv_met {l : Launch} {D : va_G} {cO : Nat → ClassId} {ad : iv_A} {d mj sz : Nat} {vs : List Value} {h : iv_H} {q : Option Value × iv_H} (hSD : iv_SD none d mj (0, iv_en mj vs, [], h) q) (hj : Cond.code (iv_y mj) (iv_by mj) (iv_mx mj) (iv_rt mj) ∈ iv_Wd) (hpl : plainName (iv_y mj).cls = true) (hcn : (iv_y mj).cls = iv_cn (iv_kf mj)) (hin : iv_ini mj = true → (iv_y mj).name = "<init>") (hlen : (iv_ex vs).length ≤ iv_mx mj) (hg : iv_gl h.length vs) (hgh : iv_gh h.length h) :
    Met l (iv_y mj) (iv_ws mj) (iv_rm d (q.2.length - h.length) (iv_sz q.2 - iv_sz h)) (iv_Pc D cO ad vs h sz) (iv_Qc D cO (va_A (iv_w ad cO h) sz) ad h.length q) (q.2.length - h.length) (iv_sz q.2 - iv_sz h) (va_A (iv_w ad cO h) sz) := by
  refine Met.ofW (cc := iv_by mj) (maxL := iv_mx mj) (ret := iv_rt mj) hpl rfl ?_
  intro p e s m args below meth c s₁ B hml hv
  obtain ⟨rfl, hsz, hP, hK, hD0, hV⟩ := hv
  subst hsz
  have hts := atoms_spec (ws := iv_ws mj) B.pre
  have hown : s.vm.findClass (iv_y mj).cls = some m.cls := findClass_of_methodNamed B.named
  have hlocks := B.notSynchronized
  have hnm : meth.name = (iv_y mj).name := (name_of_methodNamed B.named B.method).1
  rw [lg_entry_eq]
  have hl0 := lv_entry (vs.map (iv_v ad)) (n := iv_mx mj) (by rw [iv_sl_len]; exact hlen)
  have hl := iv_lv_sub (l' := iv_ll ad (iv_en mj vs)) hl0 (fun x hx => by
    obtain ⟨v, h1, h2⟩ := iv_ll_mem.mp hx
    have h3 := iv_ex_sub ad vs 0 x.1 v (iv_en_get h1)
    rw [Nat.zero_add, ← h2] at h3
    exact h3)
  have hD := hD0.self (sz := s.heap.size)
  have X : iv_X D cO p s m (vs.map (iv_v ad)).toArray meth c mj := ⟨B.exec, B.bytes, hml, by rw [← hcn]; exact hown, fun w hw => hts w (List.mem_cons_of_mem _ hw), fun hi => hnm.trans (hin hi), hK⟩
  refine hSD () X ⟨hP, hD, va_S.rf, hl, fun i v hv => hg v (iv_ex_mem (iv_en_get hv)), iv_gl_nil _, hgh⟩ (fun q h => Or.inr h) (fun q hq => by cases hq) (mc := q.2.length - h.length) (ms := iv_sz q.2 - iv_sz h) (by show 0 + (q.2.length - h.length) ≤ _; omega) (by show 0 + (iv_sz q.2 - iv_sz h) ≤ _; omega) (Nat.le_refl _) (Nat.le_refl _) (Nat.le_refl _) (Nat.le_refl _) hV ?_
  intro ad' H' locs' ls' pc' op st' hcd hre hag hgr p1 d1 s1
  have hr := B.returns
  have hx := B.exec
  have hb : c.code = iv_by mj := B.bytes
  have fin : ∀ (v : Option Value), v = q.1.map (iv_v ad') → ∀ t : State, t.heap = H' → s.WarmedH t.vm → iv_Qc D cO (va_A (iv_w ad cO h) s.heap.size) ad h.length q (vs.map (iv_v ad)).toArray s (.returned v) t := fun v hv t ht hW => ⟨⟨ad', by rw [hv], hag, hgr, by rw [ht]; exact p1, d1⟩, s1.F ht⟩
  rcases iv_re_v hre with ⟨rfl, rfl, hv, hrt⟩ | ⟨x, ty, rfl, rfl, hv, hrt, hok⟩ | ⟨x, rfl, rfl, hv, hrt⟩ | ⟨x, ty, rfl, rfl, hv, hrt, hk⟩
  · exact W.vret hx hb (hr.trans hrt) (fin none (by rw [hv]; rfl)) s1.2.2 (iv_d1 hcd rfl) hlocks
  · exact W.zret hx hb (hr.trans hrt) (iv_ok_nf hok ad').1 (fin (some (.int x)) (by rw [hv]; rfl)) s1.2.2 (iv_d1 hcd rfl) hlocks
  · exact W.lret hx hb (hr.trans hrt) (fin (some (.long x)) (by rw [hv]; rfl)) s1.2.2 (iv_d1 hcd rfl) hlocks
  · exact W.aret hx hb (hr.trans hrt) hk (Or.inr ⟨ad' (some x), rfl⟩) (fin (some (.ref (ad' (some x)))) (by rw [hv]; rfl)) s1.2.2 (iv_d1 hcd rfl) hlocks
theorem iv_ca_s {mi : Nat} {op : Jvm.ClassFile.Instr} {st : List Value} {h : iv_H} {c : Nat × List Value × List Value} (e : iv_ca mi op st h = some c) : ∃ (idx mj : Nat) (as rest : List Value), iv_mt (iv_kf mi) idx = some mj ∧ as.length = iv_na mj ∧ iv_nr as = true ∧ (rest.map fun v => v.category).sum ≤ 8 ∧
    ((op = .invokestatic idx ∧ iv_rc mj = none ∧ iv_ini mj = false ∧ st = as.reverse ++ rest ∧ c = (mj, as, rest) ∧ (iv_ex as).length ≤ iv_mx mj) ∨
     (∃ b ci, iv_rc mj = some ci ∧ iv_oc h b ci = true ∧ st = as.reverse ++ .ref b :: rest ∧ c = (mj, .ref b :: as, rest) ∧ (iv_ex as).length + 1 ≤ iv_mx mj ∧ ((op = .invokevirtual idx ∧ iv_ini mj = false ∧ iv_nn (iv_kf mi) idx = none) ∨ (op = .invokespecial idx ∧ iv_ini mj = true)))) := by
  unfold iv_ca at e
  split at e
  · cases e
  · rename_i q hq
    split at e
    · cases e
    · rename_i mj hmj
      split at e
      · rename_i hc
        obtain ⟨c1, c2, c3⟩ := hc
        have hst : st = (st.take (iv_na mj)).reverse.reverse ++ st.drop (iv_na mj) := by rw [List.reverse_reverse, List.take_append_drop]
        have hnr : iv_nr (st.take (iv_na mj)).reverse = true := by
          unfold iv_nr at c2 ⊢
          rw [List.all_reverse]; exact c2
        have hln : (st.take (iv_na mj)).reverse.length = iv_na mj := by rw [List.length_reverse]; exact c1
        split at e
        · rename_i h2
          split at e
          · rename_i h3
            cases e
            refine ⟨q.2, mj, (st.take (iv_na mj)).reverse, st.drop (iv_na mj), hmj, hln, hnr, h3.2.2, Or.inl ⟨?_, h3.1, h3.2.1, hst, rfl, ?_⟩⟩
            · unfold iv_cc at hq
              split at hq <;> cases hq
              · cases h2
              · cases h2
              · rfl
            · rw [iv_rx_n h3.1] at c3; omega
          · cases e
        · rename_i h2
          obtain ⟨b, rest, hb, e⟩ := iv_r_s e
          split at e
          · cases e
          · rename_i ci hci
            split at e
            · rename_i h3
              cases e
              obtain ⟨g1, g2, g3, g4⟩ := h3
              refine ⟨q.2, mj, (st.take (iv_na mj)).reverse, rest, hmj, hln, hnr, g2, Or.inr ⟨b, ci, hci, g1, by rw [← hb]; exact hst, rfl, ?_, ?_⟩⟩
              · rw [iv_rx_s hci] at c3; omega
              · unfold iv_cc at hq
                split at hq
                · cases hq
                  exact Or.inl ⟨rfl, by rw [g3]; rfl, g4.resolve_left (by show ¬ (0 : Nat) = 1; decide)⟩
                · cases hq
                  exact Or.inr ⟨rfl, by rw [g3]; rfl⟩
                · cases hq
                  exact absurd rfl h2
                · cases hq
            · cases e
      · cases e
section IVC
variable {p : Program} {l : Launch} {e : Env} {R : Room} {s : State} {m : MethodId} {args : Array Value} {below : List Frame} {meth : Method} {c : Code} {H : Heap} {locs : List Loc} {cells slots : Nat} {Q : State → Prop}
theorem iv_callg {D : va_G} {cO : Nat → ClassId} {ad : iv_A} {n : Nat} {r : Option Value × iv_H} {a : Array Value} {A0 A1 : Nat → Prop} {H0 : Heap} {mc ms pc : Nat} {ls : Array Slot} {st0 rest : List Value} (hr : va_Run p l e R s m args below meth c H locs cells slots mc ms (F0 m pc ls st0) rest (iv_Qc D cO A1 ad n r a) A1) (hS : va_S A0 H0 H locs) (hf : ∀ q, A1 q → A0 q)
    (kk : ∀ (ad' : iv_A) (H1 : Heap) (locs1 : List Loc), iv_ag n ad ad' → iv_gr r → va_P D iv_cl (iv_w ad' cO r.2) H1 → va_D A0 (iv_w ad' cO r.2) → va_S A0 H0 H1 locs1 → W p l e R s m args below meth c H1 locs1 (cells + mc) (slots + ms) Q (F0 m (pc + 3) ls ((r.1.map (iv_v ad')).toList ++ rest))) : W p l e R s m args below meth c H locs cells slots Q (F0 m pc ls st0) := by
  intro T hT X
  obtain ⟨v, st₀, t, T', L, h0, X', hL, e1, e2, ⟨⟨ad', hv, b1, b2, b3, b4⟩, hz, hk⟩, st⟩ := hr T hT X
  cases hv
  rw [h0] at hz hk
  obtain ⟨t2, a1, b1⟩ := kk ad' T'.heap (locs ++ L) b1 b2 (by rw [e1]; exact b3) (b4.weaken (fun _ q _ h => hf q.1 h))
    ⟨Nat.le_trans hS.1 (by rw [e1]; exact hz), fun q h1 h2 => by rw [e1, hk q (Nat.lt_of_lt_of_le h1 hS.1) (fun z => h2 (hf q z))]; exact hS.2.1 q h1 h2, fun q hq => by
      rcases List.mem_append.mp hq with h | h
      · exact hS.2.2 q h
      · exact hf _ (hL q h)⟩ T' rfl X'
  exact ⟨t2, st t2 a1, b1⟩
end IVC
theorem iv_oc_s {h : iv_H} {b ci : Nat} (e : iv_oc h b ci = true) : ∃ fs, h[b]? = some (.inl (ci, fs)) := by
  unfold iv_oc at e
  split at e
  · rename_i o ho
    have := of_decide_eq_true e
    subst this
    exact ⟨o.2, ho⟩
  · cases e
set_option maxHeartbeats 4000000 in
set_option maxRecDepth 20000 in
theorem iv_sound : ∀ (n : Nat) (z : iv_Z) (d mi : Nat) (S : iv_S) (r : Option Value × iv_H), iv_run z n d mi S = some r → iv_SD z d mi S r := by
  intro n
  induction n with
  | zero => intro z d mi S r h; cases h
  | succ n ih =>
    intro z d mi S r h
    unfold iv_run at h
    split at h
    · cases h
    · rename_i op hcd
      split at h
      · rename_i hret
        obtain ⟨v, hv, rfl⟩ := Option.map_eq_some_iff.mp h
        intro _ p l e R s m args below meth c H locs cells slots mc ms Q D cO A ad ls X I hA hZ h1 h2 h3 h4 h5 h6 hV hEnd
        obtain ⟨hP, hD, hS, hl, ga, gs, gh⟩ := id I
        have hg : iv_gr (v, S.2.2.2) := by
          refine ⟨?_, gh⟩
          rcases iv_re_v hv with ⟨_, _, rfl, _⟩ | ⟨x, ty, _, e1, rfl, _⟩ | ⟨x, _, e1, rfl, _⟩ | ⟨x, ty, _, e1, rfl, _⟩
          · exact iv_gl_nil _
          · rw [e1] at gs; exact gs
          · rw [e1] at gs; exact gs
          · rw [e1] at gs; exact gs
        refine W.widen (k := mc) (n := ms) (by omega) (by omega) ?_
        exact hEnd ad H locs ls S.1 op S.2.2.1 hcd hv iv_ag.rf hg hP hD hS
      · split at h
        · rename_i c0 hca
          split at h
          · cases h
          · rename_i d'
            split at h
            · cases h
            · rename_i q hq
              intro _ p l e R s m args below meth c H locs cells slots mc ms Q D cO A ad ls X I hA hZ h1 h2 h3 h4 h5 h6 hV hEnd
              obtain ⟨hP, hD, hS, hl, ga, gs, gh⟩ := id I
              obtain ⟨hx, hb, hml, hown, hts, hini, hK⟩ := id X
              have la := iv_run_le _ _ _ _ _ _ hq
              have lb : q.2.length ≤ r.2.length ∧ iv_sz q.2 ≤ iv_sz r.2 := iv_run_le _ _ _ _ _ _ h
              dsimp only at la
              have hSD : iv_SD none d' c0.1 (0, iv_en c0.1 c0.2.1, [], S.2.2.2) q := ih none d' c0.1 _ q hq
              obtain ⟨idx, mj, as, rest, t1, t2, t3, t4, t5⟩ := iv_ca_s hca
              obtain ⟨u1, u2, u3⟩ := iv_fT t1
              obtain ⟨f1, f2, f3, f4, f5, f6, f7, f8⟩ := iv_fM u1.1 u1.2
              have hF : ∀ x, va_A (iv_w ad cO S.2.2.2) H.size x → A x := by
                intro x hx1
                rcases hx1 with ⟨k, e1, hk⟩ | hx1
                · exact hD.2 k (x, e1) hk
                · exact hA x (Nat.le_trans hS.1 hx1)
              have hrest : ∀ {as' : List Value}, S.2.2.1 = as'.reverse ++ rest → iv_gl S.2.2.2.length rest := fun hst v hv => gs v (by rw [hst]; exact List.mem_append_right _ hv)
              have hroom : (iv_rm d' (q.2.length - S.2.2.2.length) (iv_sz q.2 - iv_sz S.2.2.2)).frames + 1 ≤ R.frames ∧ 8 + (iv_mx mj + 11) + (iv_rm d' (q.2.length - S.2.2.2.length) (iv_sz q.2 - iv_sz S.2.2.2)).locals ≤ R.locals := by
                refine ⟨by show d' + 6 + 1 ≤ R.frames; omega, ?_⟩
                show 8 + (iv_mx mj + 11) + (40 * d' + 2000) ≤ R.locals
                omega
              have hcs : cells + (q.2.length - S.2.2.2.length) ≤ R.cells ∧ slots + (iv_sz q.2 - iv_sz S.2.2.2) ≤ R.slots := by omega
              have K : iv_gl S.2.2.2.length rest → ∀ (ad' : iv_A) (H1 : Heap) (locs1 : List Loc), iv_ag S.2.2.2.length ad ad' → iv_gr q → va_P D iv_cl (iv_w ad' cO q.2) H1 → va_D A (iv_w ad' cO q.2) → va_S A s.heap H1 locs1 → W p l e R s m args below meth c H1 locs1 (cells + (q.2.length - S.2.2.2.length)) (slots + (iv_sz q.2 - iv_sz S.2.2.2)) Q (F0 m (S.1 + 3) ls ((q.1.map (iv_v ad')).toList ++ rest.map (iv_v ad))) := by
                intro grest ad' H1 locs1 ag hgr p1 d1 s1
                have e1 : (q.1.toList ++ rest).map (iv_v ad') = (q.1.map (iv_v ad')).toList ++ rest.map (iv_v ad) := by
                  rw [List.map_append, iv_st_ag ag grest]
                  cases q.1 <;> rfl
                rw [← e1]
                have hc2 : c0.2.2 = rest := by rcases t5 with ⟨_, _, _, _, rfl, _⟩ | ⟨_, _, _, _, _, rfl, _⟩ <;> rfl
                rw [hc2] at h
                exact ih z (d' + 1) mi (S.1 + 3, S.2.1, q.1.toList ++ rest, q.2) r h () X ⟨p1, d1, s1, iv_ll_ag ag ga hl, ga.mono la.1, iv_gl_app hgr.1 (grest.mono la.1), hgr.2⟩ hA (fun y hy => by obtain ⟨x1, x2, x3⟩ := hZ y hy; rw [ag.1]; exact ⟨x1, x2, x3⟩) (by show _ + _ + (r.2.length - q.2.length) ≤ mc; omega) (by show _ + _ + (iv_sz r.2 - iv_sz q.2) ≤ ms; omega) h3 h4 h5 h6 hV
                  (fun ad2 H2 locs2 ls2 pc2 op2 st2 g1 g2 g3 g4 g5 g6 g7 => hEnd ad2 H2 locs2 ls2 pc2 op2 st2 g1 g2 (ag.tr g3 la.1) g4 g5 g6 g7)
              have hPc : ∀ (vs : List Value) (U : State), U.heap = H → s.WarmedH U.vm → iv_Pc D cO ad vs S.2.2.2 H.size ((vs.map (iv_v ad)).toArray) U := fun vs U hU hW => ⟨rfl, by rw [hU], by rw [hU]; exact hP, hK.warm hW, hD.weaken (fun _ _ _ _ => trivial), by rw [hU]; exact va_Z.moved hW.alike (va_Z.narrow (va_Z.kept hV fun a g1 g2 => hS.2.1 a g1 g2) hF)⟩
              rcases t5 with ⟨rfl, rc, ri, hst, rfl, hmx⟩ | ⟨b, ci, rc, hoc, hst, rfl, hmx, hkind⟩
              · have gas : iv_gl S.2.2.2.length as := fun v hv => gs v (by rw [hst]; exact List.mem_append_left _ (List.mem_reverse.mpr hv))
                have hM := iv_met (l := l) (D := D) (cO := cO) (ad := ad) (sz := H.size) hSD f1 f3 f6 (fun z => by rw [ri] at z; cases z) hmx gas gh
                have hstack : (F0 m S.1 ls (S.2.2.1.map (iv_v ad))).stack = (as.map (iv_v ad)).reverse ++ rest.map (iv_v ad) := by
                  show S.2.2.1.map (iv_v ad) = _
                  rw [hst, List.map_append, List.map_reverse]
                cases hnn : iv_nn (iv_kf mi) idx with
                | none => exact iv_callg (va_runS (As := as.map (iv_v ad)) (rest := rest.map (iv_v ad)) ⟨hx, hb, hml, hown, hts⟩ hM ⟨callB_of (iv_na mj) hts (iv_GI (fun w hw => by rcases List.mem_cons.mp hw with rfl | hw; exact f1; exact hw)) rfl rfl rfl (hts _ f2) (hts _ (u2 hnn)) f4 hroom, hts _ (f7 rc).1⟩ ⟨iv_Pc_blind, hPc as⟩ rfl (by rw [List.length_map]; exact t2) hl.1 hstack (lv_room (by rw [iv_cats]; exact t4)) (iv_d3 hcd rfl) hcs) hS hF (K (hrest hst))
                | some host => exact iv_callg (va_runSN (As := as.map (iv_v ad)) (rest := rest.map (iv_v ad)) ⟨hx, hb, hml, hown, hts⟩ hM ⟨va_cnB (iv_na mj) hts (iv_GI (fun w hw => by rcases List.mem_cons.mp hw with rfl | hw; exact f1; exact hw)) rfl rfl rfl (hK.2.2 _ (u3 host hnn)) (hts _ f2) f4 hroom, hts _ (f7 rc).1, trivial⟩ ⟨iv_Pc_blind, hPc as⟩ rfl (by rw [List.length_map]; exact t2) hl.1 hstack (lv_room (by rw [iv_cats]; exact t4)) (iv_d3 hcd rfl) hcs) hS hF (K (hrest hst))
              · obtain ⟨fs, hfs⟩ := iv_oc_s hoc
                obtain ⟨k1, ⟨T, N, k2⟩, k3, k4⟩ := f8 ci rc
                have gas : iv_gl S.2.2.2.length (.ref b :: as) := by
                  intro v hv
                  rcases List.mem_cons.mp hv with rfl | hv
                  · exact gs _ (by rw [hst]; exact List.mem_append_right _ List.mem_cons_self)
                  · exact gs v (by rw [hst]; exact List.mem_append_left _ (List.mem_reverse.mpr hv))
                have hlen : (iv_ex (.ref b :: as)).length ≤ iv_mx mj := by
                  show (some (Value.ref b) :: iv_ex as).length ≤ _
                  rw [List.length_cons]; exact hmx
                have grest : iv_gl S.2.2.2.length rest := fun v hv => gs v (by rw [hst]; exact List.mem_append_right _ (List.mem_cons_of_mem _ hv))
                have hM := iv_met (l := l) (D := D) (cO := cO) (ad := ad) (sz := H.size) hSD f1 f3 f6 (fun z => (k3 z).1) hlen gas gh
                have hstack : (F0 m S.1 ls (S.2.2.1.map (iv_v ad))).stack = (as.map (iv_v ad)).reverse ++ .ref (ad (some b)) :: rest.map (iv_v ad) := by
                  show S.2.2.1.map (iv_v ad) = _
                  rw [hst, List.map_append, List.map_reverse]
                  rfl
                rcases hkind with ⟨rfl, ri, hnn⟩ | ⟨rfl, ri⟩
                · refine iv_callg (va_runV (C := (iv_y mj).cls) (As := as.map (iv_v ad)) (rest := rest.map (iv_v ad)) ⟨hx, hb, hml, hown, hts⟩ hM (cwV (iv_na mj) hts (iv_GI (fun w hw => ?_)) rfl rfl rfl ⟨rfl, f4⟩ hroom) ⟨iv_Pc_blind, va_recv hK.1 hP k2 (iv_w_get hfs), hPc (.ref b :: as)⟩ rfl (by rw [List.length_map]; exact t2) hl.1 hstack (lv_room (by rw [iv_cats]; exact t4)) (iv_d3 hcd rfl) hcs) hS hF (K grest)
                  simp only [wsV, List.mem_append, List.mem_cons, List.not_mem_nil, or_false] at hw
                  rcases hw with (rfl | rfl | rfl | rfl) | hw
                  · exact u2 hnn
                  · exact k1
                  · exact k4 ri
                  · exact f2
                  · rcases List.mem_cons.mp hw with rfl | hw
                    · exact f1
                    · exact hw
                · obtain ⟨nm, rt⟩ := k3 ri
                  have hws : iv_ws mj = Cond.code (iv_y mj) (iv_by mj) (iv_mx mj) none :: iv_Wd := by unfold iv_ws; rw [rt]
                  cases hnn : iv_nn (iv_kf mi) idx with
                  | none => exact iv_callg (va_runI (As := as.map (iv_v ad)) (rest := rest.map (iv_v ad)) ⟨hx, hb, hml, hown, hts⟩ hM ⟨callB_of (iv_na mj) hts (iv_GI (fun w hw => by rcases List.mem_cons.mp hw with rfl | hw; exact f1; exact hw)) hws rfl rfl (hts _ f2) (hts _ (u2 hnn)) f4 hroom, nm, hts _ k1⟩ ⟨iv_Pc_blind, hPc (.ref b :: as)⟩ rfl (by rw [List.length_map]; exact t2) hl.1 hstack (lv_room (by rw [iv_cats]; exact t4)) (iv_d3 hcd rfl) hcs) hS hF (K grest)
                  | some host => exact iv_callg (va_runIN (As := as.map (iv_v ad)) (rest := rest.map (iv_v ad)) ⟨hx, hb, hml, hown, hts⟩ hM ⟨va_cnB (iv_na mj) hts (iv_GI (fun w hw => by rcases List.mem_cons.mp hw with rfl | hw; exact f1; exact hw)) hws rfl rfl (hK.2.2 _ (u3 host hnn)) (hts _ f2) f4 hroom, nm, hts _ k1⟩ ⟨iv_Pc_blind, hPc (.ref b :: as)⟩ rfl (by rw [List.length_map]; exact t2) hl.1 hstack (lv_room (by rw [iv_cats]; exact t4)) (iv_d3 hcd rfl) hcs) hS hF (K grest)
        · split at h
          · cases h
          · rename_i o hop
            split at h
            · cases h
            · rename_i h' hef
              intro _ p l e R s m args below meth c H locs cells slots mc ms Q D cO A ad ls X I hA hZ h1 h2 h3 h4 h5 h6 hV hEnd
              have la := iv_ef_le hef
              have lb : h'.length ≤ r.2.length ∧ iv_sz h' ≤ iv_sz r.2 := iv_run_le _ _ _ _ _ _ h
              refine iv_step hop hef hcd X I hA hZ (by omega) (by omega) ⟨by omega, by omega⟩ hV (fun ad' H' locs' ls' ag I' => ?_)
              exact ih z d mi (o.1, o.2.1, o.2.2.1, h') r h () X I' hA (fun y hy => by obtain ⟨x1, x2, x3⟩ := hZ y hy; rw [ag.1]; exact ⟨x1, x2, x3⟩) (by show _ + _ + (r.2.length - h'.length) ≤ mc; omega) (by show _ + _ + (iv_sz r.2 - iv_sz h') ≤ ms; omega) h3 h4 h5 h6 hV
                (fun ad2 H2 locs2 ls2 pc2 op2 st2 g1 g2 g3 g4 g5 g6 g7 => hEnd ad2 H2 locs2 ls2 pc2 op2 st2 g1 g2 (ag.tr g3 la.1) g4 g5 g6 g7)
