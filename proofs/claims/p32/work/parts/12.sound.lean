/-! A RUN OF THE INTERPRETER IS A RUN OF THE MACHINE -/
theorem iv_GI {ws : List Cond} (h : ∀ w ∈ ws, w ∈ iv_Wd) : GoodIn iv_Wd ws := fun w hw => ⟨h w hw, good_of_word (List.mem_filter.mp (h w hw)).2⟩
def iv_rm (d mc ms : Nat) : Room := { frames := d + 6, cells := mc, slots := ms, locals := 44 * d + 2000 }
def iv_ws (mi : Nat) : List Cond := Cond.code (iv_y mi) (iv_by mi) (iv_mx mi) (iv_rt mi) :: iv_Wd
/-- at a run's end: references are numbers of cells -/
def iv_gr (r : Option Value × iv_H) : Prop := iv_gl r.2.length r.1.toList ∧ iv_gh r.2.length r.2
theorem iv_gl_app {n : Nat} {a b : List Value} (h1 : iv_gl n a) (h2 : iv_gl n b) : iv_gl n (a ++ b) := fun v hv => by
  rcases List.mem_append.mp hv with h | h
  · exact h1 v h
  · exact h2 v h
def iv_Qc (D : va_G) (cO : Nat → ClassId) (A : Nat → Prop) (ad : iv_A) (n : Nat) (r : Option Value × iv_H) : Array Value → State → Outcome → State → Prop := fun _ st oc t =>
  (∃ ad' : iv_A, oc = .returned (r.1.map (iv_v ad')) ∧ iv_ag n ad ad' ∧ iv_gr r ∧ va_P D iv_cl (iv_w ad' cO r.2) t.heap ∧ va_D A (iv_w ad' cO r.2)) ∧ va_F A st t
def iv_Pc (z : iv_Z) (D : va_G) (cO : Nat → ClassId) (ad : iv_A) (vs : List Value) (h : iv_H) (sz : Nat) : Array Value → State → Prop :=
  va_Pc (vs.map (iv_v ad)) (fun U => U.heap.size = sz ∧ va_P D iv_cl (iv_w ad cO h) U.heap ∧ iv_K D cO U ∧ va_D (fun _ => True) (iv_w ad cO h) ∧ iv_En z ad.2 (va_A (iv_w ad cO h) sz) U U.heap)
theorem iv_Pc_blind {z : iv_Z} {D : va_G} {cO : Nat → ClassId} {ad : iv_A} {vs : List Value} {h : iv_H} {sz : Nat} : FrameBlind (iv_Pc z D cO ad vs h sz) := fun _ _ _ _ q => ⟨q.1, q.2.1, q.2.2.1, q.2.2.2.1.blind, q.2.2.2.2.1, q.2.2.2.2.2.blind⟩
theorem iv_cat_v (v : Value) : v.category = 1 ∨ v.category = 2 := lv_cat v
theorem iv_ex_sub (ad : iv_A) : ∀ (vs : List Value) (k i : Nat) (v : Value), (iv_ex vs)[i]? = some (some v) → (k + i, iv_v ad v) ∈ lv_args k (vs.map (iv_v ad)) := by
  intro vs
  induction vs with
  | nil => intro k i v h; simp [iv_ex] at h
  | cons a r ih =>
    intro k i v h
    rw [List.map_cons]
    unfold lv_args
    rw [iv_v_cat]
    unfold iv_ex at h
    by_cases hc : a.category = 2
    · rw [if_pos hc] at h ⊢
      match i, h with
      | 0, h => cases h; exact List.mem_cons_self
      | 1, h => cases h
      | i + 2, h =>
        have q := ih (k + 2) i v (by simpa using h)
        rw [show k + (i + 2) = k + 2 + i by omega]
        exact List.mem_cons_of_mem _ q
    · rw [if_neg hc] at h ⊢
      match i, h with
      | 0, h => cases h; exact List.mem_cons_self
      | i + 1, h =>
        have q := ih (k + 1) i v (by simpa using h)
        rw [show k + (i + 1) = k + 1 + i by omega]
        exact List.mem_cons_of_mem _ q
theorem iv_ex_mem {vs : List Value} {i : Nat} {v : Value} (h : (iv_ex vs)[i]? = some (some v)) : v ∈ vs := by
  induction vs generalizing i with
  | nil => simp [iv_ex] at h
  | cons a r ih =>
    unfold iv_ex at h
    split at h
    · match i, h with
      | 0, h => cases h; exact List.mem_cons_self
      | 1, h => cases h
      | i + 2, h => exact List.mem_cons_of_mem _ (ih (i := i) (by simpa using h))
    · match i, h with
      | 0, h => cases h; exact List.mem_cons_self
      | i + 1, h => exact List.mem_cons_of_mem _ (ih (i := i) (by simpa using h))
theorem iv_en_get {mj i : Nat} {vs : List Value} {v : Value} (h : (iv_en mj vs)[i]? = some (some v)) : (iv_ex vs)[i]? = some (some v) := by
  unfold iv_en at h
  by_cases hi : i < (iv_ex vs).length
  · rw [List.getElem?_append_left hi] at h
    exact h
  · rw [List.getElem?_append_right (by omega), List.getElem?_replicate] at h
    split at h <;> cases h
theorem iv_ex_cons (a : Value) (r : List Value) : iv_ex (a :: r) = if a.category = 2 then some a :: none :: iv_ex r else some a :: iv_ex r := rfl
theorem iv_sl_len (ad : iv_A) : ∀ vs : List Value, (lg_sl (vs.map (iv_v ad))).length = (iv_ex vs).length := by
  intro vs
  induction vs with
  | nil => rfl
  | cons a r ih =>
    have e : lg_sl ((a :: r).map (iv_v ad)) = (if (iv_v ad a).category = 2 then [Slot.val (iv_v ad a), .second] else [.val (iv_v ad a)]) ++ lg_sl (r.map (iv_v ad)) := by
      simp [lg_sl]
    rw [e, iv_v_cat, List.length_append, ih, iv_ex_cons]
    split
    · simp only [List.length_cons, List.length_nil]; omega
    · simp only [List.length_cons, List.length_nil]; omega
/-- what a run says of the machine -/
def iv_SD (z : iv_Z) (d mi : Nat) (S : iv_S) (r : Option Value × iv_H) : Prop :=
  Unit → ∀ {p : Program} {l : Launch} {e : Env} {R : Room} {s : State} {m : MethodId} {args : Array Value} {below : List Frame} {meth : Method} {c : Code} {H : Heap} {locs : List Loc} {cells slots mc ms : Nat} {Q : State → Prop} {D : va_G} {cO : Nat → ClassId} {A : Nat → Prop} {ad : iv_A} {ls : Array Slot},
  iv_X D cO p s m args meth c mi → iv_I D cO A s.heap mi ad S.2.1 S.2.2.1 S.2.2.2 H locs ls → (∀ q, s.heap.size ≤ q → A q) →
  cells + (r.2.length - S.2.2.2.length) ≤ mc → slots + (iv_sz r.2 - iv_sz S.2.2.2) ≤ ms → mc ≤ R.cells → ms ≤ R.slots → d + 6 ≤ R.frames → 44 * d + 2000 ≤ R.locals → iv_En z ad.2 A s s.heap →
  (∀ (ad' : iv_A) (H' : Heap) (locs' : List Loc) (ls' : Array Slot) (pc' : Nat) (op : Jvm.ClassFile.Instr) (st' : List Value), iv_cd mi pc' = some op → iv_re mi op st' = some r.1 → iv_ag S.2.2.2.length ad ad' → iv_gr r → va_P D iv_cl (iv_w ad' cO r.2) H' → va_D A (iv_w ad' cO r.2) → va_S A s.heap H' locs' → W p l e R s m args below meth c H' locs' mc ms Q (F0 m pc' ls' (st'.map (iv_v ad')))) →
  W p l e R s m args below meth c H locs cells slots Q (F0 m S.1 ls (S.2.2.1.map (iv_v ad)))
theorem iv_re_v {mi : Nat} {op : Jvm.ClassFile.Instr} {st : List Value} {v : Option Value} (h : iv_re mi op st = some v) : (op = .return_ ∧ st = [] ∧ v = none ∧ iv_rt mi = none) ∨ (∃ x ty, op = .ireturn ∧ st = [.int x] ∧ v = some (.int x) ∧ iv_rt mi = some ty ∧ iv_ok ty (.int x) = true) ∨ (∃ x, op = .lreturn ∧ st = [.long x] ∧ v = some (.long x) ∧ iv_rt mi = some .long) ∨ (∃ x ty, op = .areturn ∧ st = [.ref x] ∧ v = some (.ref x) ∧ iv_rt mi = some ty ∧ ((∃ n, ty = .object n) ∨ ∃ t, ty = .array t)) := by
  unfold iv_re at h
  split at h
  · split at h
    · split at h
      · cases h; exact Or.inl ⟨rfl, rfl, rfl, by assumption⟩
      · cases h
    · cases h
  · split at h
    · split at h
      · rename_i x hr
        cases h
        unfold iv_ro at hr
        split at hr
        · rename_i ty hty
          exact Or.inr (Or.inl ⟨x, ty, rfl, rfl, rfl, hty, hr⟩)
        · cases hr
      · cases h
    · cases h
  · split at h
    · split at h
      · rename_i x hr
        cases h
        unfold iv_ro at hr
        split at hr
        · rename_i ty hty
          cases ty with
          | long => exact Or.inr (Or.inr (Or.inl ⟨x, rfl, rfl, rfl, hty⟩))
          | _ => cases hr
        · cases hr
      · cases h
    · cases h
  · split at h
    · split at h
      · rename_i x hr
        cases h
        unfold iv_rq at hr
        split at hr
        · rename_i n hty
          exact Or.inr (Or.inr (Or.inr ⟨x, _, rfl, rfl, rfl, hty, Or.inl ⟨n, rfl⟩⟩))
        · rename_i n hty
          exact Or.inr (Or.inr (Or.inr ⟨x, _, rfl, rfl, rfl, hty, Or.inr ⟨n, rfl⟩⟩))
        · cases hr
      · cases h
    · cases h
  · cases h
theorem iv_d1' {mi pc : Nat} {op : Jvm.ClassFile.Instr} (h : iv_cd mi pc = some op) (e : iv_n op = 1) : decode (iv_by mi) pc = .ok (op, 1) := iv_d1 h e
set_option maxHeartbeats 2000000 in
theorem iv_met {z : iv_Z} {l : Launch} {D : va_G} {cO : Nat → ClassId} {ad : iv_A} {d mj sz : Nat} {vs : List Value} {h : iv_H} {q : Option Value × iv_H} (hSD : iv_SD z d mj (0, iv_en mj vs, [], h) q) (hj : Cond.code (iv_y mj) (iv_by mj) (iv_mx mj) (iv_rt mj) ∈ iv_Wd) (hpl : plainName (iv_y mj).cls = true) (hcn : (iv_y mj).cls = iv_cn (iv_kf mj)) (hin : iv_ini mj = true → (iv_y mj).name = "<init>") (hlen : (iv_ex vs).length ≤ iv_mx mj) (hg : iv_gl h.length vs) (hgh : iv_gh h.length h) :
    Met l (iv_y mj) (iv_ws mj) (iv_rm d (q.2.length - h.length) (iv_sz q.2 - iv_sz h)) (iv_Pc z D cO ad vs h sz) (iv_Qc D cO (va_A (iv_w ad cO h) sz) ad h.length q) (q.2.length - h.length) (iv_sz q.2 - iv_sz h) (va_A (iv_w ad cO h) sz) := by
  refine Met.ofW (cc := iv_by mj) (maxL := iv_mx mj) (ret := iv_rt mj) hpl rfl ?_
  intro p e s m args below meth c s₁ B hml hv
  obtain ⟨rfl, hsz, hP, hK, hD0, hV⟩ := hv
  subst hsz
  have hts := atoms_spec (ws := iv_ws mj) B.pre
  have hown : s.vm.findClass (iv_y mj).cls = some m.cls := findClass_of_methodNamed B.named
  have hlocks := B.notSynchronized
  have hnm : meth.name = (iv_y mj).name := (name_of_methodNamed B.named B.method).1
  rw [lg_entry_eq]
  have hl0 := lv_entry (vs.map (iv_v ad)) (n := iv_mx mj) (by rw [iv_sl_len]; exact hlen)
  have hl := iv_lv_sub (l' := iv_ll ad (iv_en mj vs)) hl0 (fun x hx => by
    obtain ⟨v, h1, h2⟩ := iv_ll_mem.mp hx
    have h3 := iv_ex_sub ad vs 0 x.1 v (iv_en_get h1)
    rw [Nat.zero_add, ← h2] at h3
    exact h3)
  have hD := hD0.self (sz := s.heap.size)
  have X : iv_X D cO p s m (vs.map (iv_v ad)).toArray meth c mj := ⟨B.exec, B.bytes, hml, by rw [← hcn]; exact hown, fun w hw => hts w (List.mem_cons_of_mem _ hw), fun hi => hnm.trans (hin hi), hK⟩
  refine hSD () X ⟨hP, hD, va_S.rf, hl, fun i v hv => hg v (iv_ex_mem (iv_en_get hv)), iv_gl_nil _, hgh⟩ (fun q h => Or.inr h) (mc := q.2.length - h.length) (ms := iv_sz q.2 - iv_sz h) (by show 0 + (q.2.length - h.length) ≤ _; omega) (by show 0 + (iv_sz q.2 - iv_sz h) ≤ _; omega) (Nat.le_refl _) (Nat.le_refl _) (Nat.le_refl _) (Nat.le_refl _) hV ?_
  intro ad' H' locs' ls' pc' op st' hcd hre hag hgr p1 d1 s1
  have hr := B.returns
  have hx := B.exec
  have hb : c.code = iv_by mj := B.bytes
  have fin : ∀ (v : Option Value), v = q.1.map (iv_v ad') → ∀ t : State, t.heap = H' → s.WarmedH t.vm → iv_Qc D cO (va_A (iv_w ad cO h) s.heap.size) ad h.length q (vs.map (iv_v ad)).toArray s (.returned v) t := fun v hv t ht hW => ⟨⟨ad', by rw [hv], hag, hgr, by rw [ht]; exact p1, d1⟩, s1.F ht⟩
  rcases iv_re_v hre with ⟨rfl, rfl, hv, hrt⟩ | ⟨x, ty, rfl, rfl, hv, hrt, hok⟩ | ⟨x, rfl, rfl, hv, hrt⟩ | ⟨x, ty, rfl, rfl, hv, hrt, hk⟩
  · exact W.vret hx hb (hr.trans hrt) (fin none (by rw [hv]; rfl)) s1.2.2 (iv_d1 hcd rfl) hlocks
  · exact W.zret hx hb (hr.trans hrt) (iv_ok_nf hok ad').1 (fin (some (.int x)) (by rw [hv]; rfl)) s1.2.2 (iv_d1 hcd rfl) hlocks
  · exact W.lret hx hb (hr.trans hrt) (fin (some (.long x)) (by rw [hv]; rfl)) s1.2.2 (iv_d1 hcd rfl) hlocks
  · exact W.aret hx hb (hr.trans hrt) hk (Or.inr ⟨ad'.1 x, rfl⟩) (fin (some (.ref (ad'.1 x))) (by rw [hv]; rfl)) s1.2.2 (iv_d1 hcd rfl) hlocks
theorem iv_kk__s {mi idx mj q1 : Nat} (h : iv_kk_ mi idx mj q1 = true) : (q1 = 1 ∧ ((iv_ini mj = true ∧ iv_kd (iv_kf mi) idx = none) ∨ (iv_ini mj = false ∧ iv_kd (iv_kf mi) idx = some 3))) ∨ (¬ q1 = 1 ∧ iv_ini mj = false ∧ iv_nn (iv_kf mi) idx = none ∧ ¬ iv_kd (iv_kf mi) idx = some 3) := by
  unfold iv_kk_ at h
  cases e : Nat.beq q1 1 with
  | true =>
    rw [e] at h
    refine Or.inl ⟨Nat.eq_of_beq_eq_true e, ?_⟩
    cases e2 : iv_ini mj with
    | true =>
      rw [e2] at h
      exact Or.inl ⟨rfl, Option.isNone_iff_eq_none.mp h⟩
    | false =>
      rw [e2] at h
      exact Or.inr ⟨rfl, of_decide_eq_true h⟩
  | false =>
    rw [e] at h
    have h2 : (!iv_ini mj && Option.isNone (iv_nn (iv_kf mi) idx) && !decide (iv_kd (iv_kf mi) idx = some 3)) = true := h
    simp only [Bool.and_eq_true, Bool.not_eq_true', decide_eq_false_iff_not] at h2
    exact Or.inr ⟨Nat.ne_of_beq_eq_false e, h2.1.1, Option.isNone_iff_eq_none.mp h2.1.2, h2.2⟩
theorem iv_ca_s {z : iv_Z} {mi : Nat} {op : Jvm.ClassFile.Instr} {st : List Value} {h : iv_H} {c : Nat × List Value × List Value} (e : iv_ca z mi op st h = some c) : ∃ (idx mj : Nat) (as rest : List Value), iv_mt (iv_kf mi) idx = some mj ∧ as.length = iv_na mj ∧ (rest.map fun v => v.category).sum ≤ 8 ∧
    ((op = .invokestatic idx ∧ iv_rc mj = none ∧ iv_ini mj = false ∧ st = as.reverse ++ rest ∧ c = (mj, as, rest) ∧ (iv_ex as).length ≤ iv_mx mj ∧ iv_kd (iv_kf mi) idx = none) ∨
     (∃ v0 ci, iv_rc mj = some ci ∧ ((∃ b, v0 = .ref b ∧ iv_oc h b ci = true) ∨ ∃ b, v0 = .retAddr b ∧ iv_zo z b ci = true) ∧ st = as.reverse ++ v0 :: rest ∧ c = (mj, v0 :: as, rest) ∧ (iv_ex as).length + 1 ≤ iv_mx mj ∧ ((op = .invokevirtual idx ∧ iv_ini mj = false ∧ iv_nn (iv_kf mi) idx = none ∧ ¬ iv_kd (iv_kf mi) idx = some 3) ∨ (op = .invokespecial idx ∧ iv_ini mj = true ∧ iv_kd (iv_kf mi) idx = none) ∨ (op = .invokespecial idx ∧ iv_ini mj = false ∧ iv_kd (iv_kf mi) idx = some 3)))) := by
  unfold iv_ca at e
  split at e
  · cases e
  · rename_i q hq
    split at e
    · cases e
    · rename_i mj hmj
      split at e
      · rename_i hc
        obtain ⟨c1, c3⟩ := hc
        have hst : st = (st.take (iv_na mj)).reverse.reverse ++ st.drop (iv_na mj) := by rw [List.reverse_reverse, List.take_append_drop]
        have hln : (st.take (iv_na mj)).reverse.length = iv_na mj := by rw [List.length_reverse]; exact c1
        have hqs : ∀ (a b : Nat), q = (a, b) → iv_cc op = some (a, b) := fun a b e9 => by rw [hq, e9]
        split at e
        · rename_i h2
          split at e
          · rename_i h3
            cases e
            refine ⟨q.2, mj, (st.take (iv_na mj)).reverse, st.drop (iv_na mj), hmj, hln, h3.2.2.2, Or.inl ⟨?_, h3.1, h3.2.1, hst, rfl, ?_, h3.2.2.1⟩⟩
            · unfold iv_cc at hq
              split at hq <;> cases hq
              · cases h2
              · cases h2
              · rfl
            · rw [iv_rx_n h3.1] at c3; omega
          · cases e
        · rename_i h2
          split at e
          · cases e
          · rename_i ci hci
            have kind : ∀ {v0 : Value} {rest : List Value}, iv_kk_ mi q.2 mj q.1 = true → ((op = .invokevirtual q.2 ∧ iv_ini mj = false ∧ iv_nn (iv_kf mi) q.2 = none ∧ ¬ iv_kd (iv_kf mi) q.2 = some 3) ∨ (op = .invokespecial q.2 ∧ iv_ini mj = true ∧ iv_kd (iv_kf mi) q.2 = none) ∨ (op = .invokespecial q.2 ∧ iv_ini mj = false ∧ iv_kd (iv_kf mi) q.2 = some 3)) := by
              intro v0 rest hk
              rcases iv_kk__s hk with ⟨k1, k2⟩ | ⟨k1, k2⟩
              · have ho : op = .invokespecial q.2 := by
                  unfold iv_cc at hq
                  split at hq <;> cases hq
                  · cases k1
                  · rfl
                  · cases k1
                rcases k2 with k2 | k2
                · exact Or.inr (Or.inl ⟨ho, k2⟩)
                · exact Or.inr (Or.inr ⟨ho, k2⟩)
              · have ho : op = .invokevirtual q.2 := by
                  unfold iv_cc at hq
                  split at hq <;> cases hq
                  · rfl
                  · exact absurd rfl k1
                  · exact absurd rfl h2
                exact Or.inl ⟨ho, k2⟩
            split at e
            · rename_i b rest hb
              split at e
              · rename_i h3
                cases e
                obtain ⟨g1, g2, g3⟩ := h3
                refine ⟨q.2, mj, (st.take (iv_na mj)).reverse, rest, hmj, hln, g2, Or.inr ⟨.ref b, ci, hci, Or.inl ⟨b, rfl, g1⟩, by rw [← hb]; exact hst, rfl, ?_, kind (v0 := .null) (rest := []) g3⟩⟩
                rw [iv_rx_s hci] at c3; omega
              · cases e
            · rename_i b rest hb
              split at e
              · rename_i h3
                cases e
                obtain ⟨g1, g2, g3⟩ := h3
                refine ⟨q.2, mj, (st.take (iv_na mj)).reverse, rest, hmj, hln, g2, Or.inr ⟨.retAddr b, ci, hci, Or.inr ⟨b, rfl, g1⟩, by rw [← hb]; exact hst, rfl, ?_, kind (v0 := .null) (rest := []) g3⟩⟩
                rw [iv_rx_s hci] at c3; omega
              · cases e
            · cases e
      · cases e
section IVC
variable {p : Program} {l : Launch} {e : Env} {R : Room} {s : State} {m : MethodId} {args : Array Value} {below : List Frame} {meth : Method} {c : Code} {H : Heap} {locs : List Loc} {cells slots : Nat} {Q : State → Prop}
theorem iv_callg {D : va_G} {cO : Nat → ClassId} {ad : iv_A} {n : Nat} {r : Option Value × iv_H} {a : Array Value} {A0 A1 : Nat → Prop} {H0 : Heap} {mc ms pc : Nat} {ls : Array Slot} {st0 rest : List Value} (hr : va_Run p l e R s m args below meth c H locs cells slots mc ms (F0 m pc ls st0) rest (iv_Qc D cO A1 ad n r a) A1) (hS : va_S A0 H0 H locs) (hf : ∀ q, A1 q → A0 q)
    (kk : ∀ (ad' : iv_A) (H1 : Heap) (locs1 : List Loc), iv_ag n ad ad' → iv_gr r → va_P D iv_cl (iv_w ad' cO r.2) H1 → va_D A0 (iv_w ad' cO r.2) → va_S A0 H0 H1 locs1 → W p l e R s m args below meth c H1 locs1 (cells + mc) (slots + ms) Q (F0 m (pc + 3) ls ((r.1.map (iv_v ad')).toList ++ rest))) : W p l e R s m args below meth c H locs cells slots Q (F0 m pc ls st0) := by
  intro T hT X
  obtain ⟨v, st₀, t, T', L, h0, X', hL, e1, e2, ⟨⟨ad', hv, b1, b2, b3, b4⟩, hz, hk⟩, st⟩ := hr T hT X
  cases hv
  rw [h0] at hz hk
  obtain ⟨t2, a1, b1⟩ := kk ad' T'.heap (locs ++ L) b1 b2 (by rw [e1]; exact b3) (b4.weaken (fun _ q _ h => hf q.1 h))
    ⟨Nat.le_trans hS.1 (by rw [e1]; exact hz), fun q h1 h2 => by rw [e1, hk q (Nat.lt_of_lt_of_le h1 hS.1) (fun z => h2 (hf q z))]; exact hS.2.1 q h1 h2, fun q hq => by
      rcases List.mem_append.mp hq with h | h
      · exact hS.2.2 q h
      · exact hf _ (hL q h)⟩ T' rfl X'
  exact ⟨t2, st t2 a1, b1⟩
end IVC
theorem iv_fT {f i j : Nat} (h : iv_mt f i = some j) : j ∈ iv_nos ∧ (iv_kd f i = none → (∀ host, iv_nn f i = some host → (iv_cn f, i, iv_y j, host) ∈ iv_nw) ∧ (iv_nn f i = none → Cond.methodLink (iv_cn f) i (iv_y j) ∈ iv_Wd ∧ (iv_ini j = true ∨ iv_rc j = none ∨ (Cond.selects (iv_rn j) (iv_y j) (iv_y j) ∈ iv_Wd ∧ iv_rn j = (iv_y j).cls)))) ∧
    (iv_kd f i = some 1 → Cond.methodLink (iv_cn f) i (iv_y j) ∈ iv_Wd ∧ Cond.selects (iv_rn j) (iv_y j) (iv_y j) ∈ iv_Wd ∧ Cond.sameMethod (iv_y j).cls (iv_y j).cls (iv_y j).name (iv_y j).desc ∈ iv_Wd) ∧
    (iv_kd f i = some 2 → ∃ x, x ∈ iv_nos ∧ Cond.methodLink (iv_cn f) i (iv_y x) ∈ iv_Wd ∧ Cond.sameMethod (iv_y x).cls (iv_y x).cls (iv_y x).name (iv_y x).desc ∈ iv_Wd ∧ Cond.instanceMethod (iv_y x) ∈ iv_Wd ∧ Cond.selects (iv_rn j) (iv_y x) (iv_y j) ∈ iv_Wd ∧ (iv_y x).desc = (iv_y j).desc) ∧
    (iv_kd f i = some 3 → Cond.methodLink (iv_cn f) i (iv_y j) ∈ iv_Wd ∧ Cond.sameMethod (iv_y j).cls (iv_y j).cls (iv_y j).name (iv_y j).desc ∈ iv_Wd ∧ Cond.superclass (iv_cn f) (iv_y j).cls ∈ iv_Wd ∧ iv_rn j = iv_cn f) ∧ (iv_kd f i = none ∨ iv_kd f i = some 1 ∨ iv_kd f i = some 2 ∨ iv_kd f i = some 3) := by
  have a := iv_ckT_s h
  unfold iv_ckT at a
  rw [h] at a
  dsimp only at a
  obtain ⟨a0, a⟩ := Bool.and_eq_true_iff.mp a
  refine ⟨of_decide_eq_true a0, ?_⟩
  split at a
  · rename_i hk
    rw [hk]
    refine ⟨fun _ => ⟨fun host hh => ?_, fun hn => ?_⟩, (fun e => by cases e), (fun e => by cases e), (fun e => by cases e), Or.inl rfl⟩
    · rw [hh] at a
      exact of_decide_eq_true a
    · rw [hn] at a
      obtain ⟨b1, b2⟩ := Bool.and_eq_true_iff.mp a
      refine ⟨iv_wo_s b1, ?_⟩
      simp only [Bool.or_eq_true, Bool.and_eq_true, decide_eq_true_eq, Option.isNone_iff_eq_none] at b2
      rcases b2 with (b2 | b2) | b2
      · exact Or.inl b2
      · exact Or.inr (Or.inl b2)
      · exact Or.inr (Or.inr ⟨iv_at_s b2.1, b2.2⟩)
  · rename_i hk
    rw [hk]
    obtain ⟨b1, b2⟩ := Bool.and_eq_true_iff.mp a
    obtain ⟨b2, b3⟩ := Bool.and_eq_true_iff.mp b2
    exact ⟨(fun e => by cases e), fun _ => ⟨iv_wo_s b1, iv_at_s b2, id_so_s b3⟩, (fun e => by cases e), (fun e => by cases e), Or.inr (Or.inl rfl)⟩
  · rename_i hk
    rw [hk]
    split at a
    · rename_i x hx
      obtain ⟨b1, b2⟩ := Bool.and_eq_true_iff.mp a
      obtain ⟨b2, b3⟩ := Bool.and_eq_true_iff.mp b2
      obtain ⟨b3, b4⟩ := Bool.and_eq_true_iff.mp b3
      obtain ⟨b4, b5⟩ := Bool.and_eq_true_iff.mp b4
      obtain ⟨b5, b6⟩ := Bool.and_eq_true_iff.mp b5
      exact ⟨(fun e => by cases e), (fun e => by cases e), fun _ => ⟨x, of_decide_eq_true b3, iv_wo_s b1, id_so_s b2, iv_at_s b4, id_so_s b5, of_decide_eq_true b6⟩, (fun e => by cases e), Or.inr (Or.inr (Or.inl rfl))⟩
    · cases a
  · rename_i hk
    rw [hk]
    obtain ⟨b1, b2⟩ := Bool.and_eq_true_iff.mp a
    obtain ⟨b2, b3⟩ := Bool.and_eq_true_iff.mp b2
    obtain ⟨b3, b4⟩ := Bool.and_eq_true_iff.mp b3
    exact ⟨(fun e => by cases e), (fun e => by cases e), (fun e => by cases e), fun _ => ⟨iv_wo_s b1, id_so_s b2, id_so_s b3, of_decide_eq_true b4⟩, Or.inr (Or.inr (Or.inr rfl))⟩
  · cases a
/-- a receiver, in the machine -/
theorem iv_rcv {z : iv_Z} {s : State} {D : va_G} {cO : Nat → ClassId} {A : Nat → Prop} {ad : iv_A} {h : iv_H} {H : Heap} {locs : List Loc} {v0 : Value} {ci : Nat} {C : String} {T : u_T} {N : Nat} (hK : iv_K D cO s) (hP : va_P D iv_cl (iv_w ad cO h) H) (hS : va_S A s.heap H locs) (hE : iv_En z ad.2 A s s.heap) (g : iv_cl[ci]? = some (C, T, N)) (hv : (∃ b, v0 = .ref b ∧ iv_oc h b ci = true) ∨ ∃ b, v0 = .retAddr b ∧ iv_zo z b ci = true) : ∃ a : Nat, iv_v ad v0 = .ref a ∧ ∃ cell : Cell, H[a]? = some cell ∧ cell.vm.isStatics = false ∧ s.vm.findClass C = some cell.cls := by
  rcases hv with ⟨b, rfl, hb⟩ | ⟨b, rfl, hb⟩
  · obtain ⟨fs, hfs⟩ := iv_oc_s hb
    exact ⟨ad.1 b, rfl, va_recv hK.1 hP g (iv_w_get hfs)⟩
  · obtain ⟨fs, hfs⟩ := iv_zo_s hb
    obtain ⟨a, h1, C', T', N', h2, h3, -⟩ := hE.1 b _ hfs
    cases g.symm.trans h2
    obtain ⟨cell, g1, g2, g3, g4⟩ := h3
    refine ⟨a, iv_v_ra h1, cell, ?_, g2, g3⟩
    rw [hS.2.1 a (Array.getElem?_eq_some_iff.mp g1).1 g4]
    exact g1
/-! ===== BEGIN new T[n][m]: the outer array a place, the inner ones among the pooled ===== -/
/-- f, but v at every address of l -/
def vr_up {α : Type} (f : Nat → α) (l : List Nat) (v : α) : Nat → α := fun a => if a ∈ l then v else f a
theorem vr_up_in {α : Type} {f : Nat → α} {l : List Nat} {v : α} {a : Nat} (h : a ∈ l) : vr_up f l v a = v := if_pos h
theorem vr_up_ne {α : Type} {f : Nat → α} {l : List Nat} {v : α} {a : Nat} (h : a ∉ l) : vr_up f l v a = f a := if_neg h
theorem vr_rows {L l : List Nat} {f : Nat → va_E} {e : va_E} (h : ∀ a, a ∈ l → a ∉ L) : va_pl L f ++ l.map (fun a => (a, e)) = va_pl (L ++ l) (vr_up f l e) := by
  unfold va_pl
  rw [List.map_append]
  congr 1
  · apply List.map_congr_left
    intro a ha
    rw [vr_up_ne (fun q => h a q ha)]
  · apply List.map_congr_left
    intro a ha
    rw [vr_up_in ha]
theorem vr_lay {X rows : va_W} {x : Nat × va_E} {pl : va_W} {D : va_G} {cl : List vw_C} {H : Heap} (hP : va_P D cl (((X ++ pl) ++ [x]) ++ rows) H) : va_P D cl ((X ++ [x]) ++ (pl ++ rows)) H := by
  rw [List.append_assoc (X ++ pl)] at hP
  have h := va_P.swap hP
  rw [← List.append_assoc X] at h
  have h2 := va_P.swap h
  rw [List.append_assoc (X ++ [x])] at h2
  exact h2
theorem vr_layD {X rows : va_W} {x : Nat × va_E} {pl : va_W} {A : Nat → Prop} (hD : va_D A (((X ++ pl) ++ [x]) ++ rows)) : va_D A ((X ++ [x]) ++ (pl ++ rows)) := by
  rw [List.append_assoc (X ++ pl)] at hD
  have h := va_D.swap hD
  rw [← List.append_assoc X] at h
  have h2 := va_D.swap h
  rw [List.append_assoc (X ++ [x])] at h2
  exact h2
theorem vr_outer (c : ClassId) (N h0 : Nat) : ∀ i : Nat, Jvm.Free.Multi.outerC c N h0 i = arrV c N (fun j => va_rf (if j < i then some (h0 + 1 + j) else none))
  | 0 => by
    show ({ cls := c, slots := Array.replicate N .null, vm := .none } : Cell) = _
    rw [arrV_new]
    refine congrArg (arrV c N) (funext fun j => ?_)
    simp [va_rf]
  | i + 1 => by
    show (Jvm.Free.Multi.outerC c N h0 i).setSlot i (.ref (h0 + 1 + i)) = _
    rw [vr_outer c N h0 i, arrV_store]
    refine congrArg (arrV c N) (funext fun j => ?_)
    by_cases e : j = i
    · subst e
      simp [updV, va_rf]
    · by_cases h : j < i
      · simp [updV, e, h, Nat.lt_succ_of_lt h]
      · simp [updV, e, h, show ¬ j < i + 1 by omega]
section VGM
variable {p : Program} {l : Launch} {e : Env} {R : Room} {s : State} {m : MethodId} {args : Array Value} {below : List Frame} {meth : Method} {c : Code} {H : Heap} {locs : List Loc} {cells slots : Nat} {Q : State → Prop}
variable {cc : ByteArray} {pc : Nat} {ls : Array Slot} {rest : List Value} {D : va_G} {cl : List vw_C} {A : Nat → Prop} {a : Nat} {tys : List (ClassId × FieldType)} {ws : va_W} {H0 : Heap}
theorem va_mna {X : va_W} {L : List Nat} {f : Nat → va_E} {cc : ByteArray} (hexec : p.tables.exec = Jvm.exec) (hb : c.code = cc) {own : String} {index : Nat} {ty : FieldType} {cy : ClassId} (hown : s.vm.findClass own = some m.cls) (hclink : (Cond.classLink own index ("[" ++ (FieldType.array ty).toString)).before args s = true) (hover : va_AOA ty s) (harr : (Cond.arrayClass ty).before args s = true) (hcy : s.vm.findClass (FieldType.array ty).toString = some cy)
    (hK : va_K D cl tys s) (hP : va_P D cl (X ++ va_pl L f) H) (hD : va_D A (X ++ va_pl L f)) (hS : va_S A H0 H locs) (hA : ∀ q, H0.size ≤ q → A q) {n k : Int32} {N' K' : Nat} {z : vp_A} (hn : ¬ n < 0) (hk : ¬ k < 0) (hN : n.toNatClampNeg = N') (hM : k.toNatClampNeg = K')
    (hb1 : N' * 4 ≤ 536870912) (hb2 : K' * componentBytes ty ≤ 536870912) (hb3 : K' ≤ 536870912) (hdf : fits ty (defaultValue ty) = true) (hdd : (defaultValue ty).isDefault = true) (hcells : cells + (1 + N') ≤ R.cells) (hslots : slots + (N' + N' * K') ≤ R.slots) (hz : ∀ c : ClassId, Jvm.Free.Multi.innerC c K' (defaultValue ty) = vp_cell c z) (hdg : decode cc pc = .ok (.multianewarray index 2, 4))
    (kk : ∀ (q : Nat) (r : Nat → Nat) (cA : ClassId) (H1 : Heap), (∀ i j : Nat, i < N' → j < N' → r i = r j → i = j) → (∀ i : Nat, i < N' → r i ∉ L) → va_K D cl (tys ++ [(cA, .array ty)]) s →
      va_P D cl ((X ++ [(q, .inl (cA, N', .inr (.inr (.inr (.inr (fun i => if i < N' then some (r i) else none))))))]) ++ va_pl (L ++ (List.range N').map r) (vr_up f ((List.range N').map r) (.inl (cy, z)))) H1 → va_D A ((X ++ [(q, .inl (cA, N', .inr (.inr (.inr (.inr (fun i => if i < N' then some (r i) else none))))))]) ++ va_pl (L ++ (List.range N').map r) (vr_up f ((List.range N').map r) (.inl (cy, z)))) → va_S A H0 H1 locs →
      W p l e R s m args below meth c H1 locs (cells + 1 + N') (slots + N' + N' * K') Q (F0 m (pc + 4) ls (.ref q :: rest))) : W p l e R s m args below meth c H locs cells slots Q (F0 m pc ls (.int k :: .int n :: rest)) := by
  subst hN
  subst hM
  intro T hT Xs
  obtain ⟨vm₁, cA, comp, -, fA, fC, hO, -, X', step⟩ := Xs.multianewarray2F hexec hown hclink (va_AOA.use hover) harr (g := F0 m pc ls (.int k :: .int n :: rest)) rfl (by rw [hb]; exact hdg) rfl hn hk hb1 hb2 hb3 hdf hdd hcells hslots
  have ec : some cy = some comp := hcy.symm.trans fC
  cases ec
  generalize hF : Jvm.Free.Multi.fill (T.setVm vm₁) cA cy n.toNatClampNeg k.toNatClampNeg (defaultValue ty) n.toNatClampNeg = F at X' step
  have hTh : (T.setVm vm₁).heap = H := hT
  obtain ⟨f1, f2, -, -⟩ := Jvm.Free.Multi.fill_facts (T.setVm vm₁) cA cy n.toNatClampNeg k.toNatClampNeg (defaultValue ty) n.toNatClampNeg
  rw [hF, hTh] at f1 f2
  have hold : ∀ x : Nat, x < H.size → F.heap[x]? = H[x]? := fun x hx => by
    have := Jvm.Free.Multi.fill_old (T.setVm vm₁) cA cy n.toNatClampNeg k.toNatClampNeg (defaultValue ty) (a := x) (by rw [hTh]; exact hx) n.toNatClampNeg
    rw [hF, hTh] at this
    exact this
  have hrow : ∀ j : Nat, j < n.toNatClampNeg → F.heap[H.size + 1 + j]? = some (vp_cell cy z) := fun j hj => by
    have := Jvm.Free.Multi.fill_inner (T.setVm vm₁) cA cy n.toNatClampNeg k.toNatClampNeg (defaultValue ty) n.toNatClampNeg j hj
    rw [hF, hTh, hz] at this
    exact this
  have hout : Jvm.Free.Multi.outerC cA n.toNatClampNeg H.size n.toNatClampNeg = vp_cell cA (n.toNatClampNeg, .inr (.inr (.inr (.inr (fun i => if i < n.toNatClampNeg then some (H.size + 1 + i) else none))))) := by
    rw [vp_cell_q]
    exact vr_outer cA n.toNatClampNeg H.size n.toNatClampNeg
  rw [hout] at f2
  have hlt : ∀ a, a ∈ L → a < H.size := fun a ha => by
    obtain ⟨k9, hk9⟩ := va_pl_get (X := X) (f := f) ha
    exact (hP k9 _ hk9).lt
  have hnl : ∀ i : Nat, i < n.toNatClampNeg → H.size + 1 + i ∉ L := fun i _ h => by
    have := hlt _ h
    omega
  have hnm : ∀ a, a ∈ (List.range n.toNatClampNeg).map (fun i => H.size + 1 + i) → a ∉ L := fun a ha h => by
    obtain ⟨i, -, rfl⟩ := List.mem_map.mp ha
    have := hlt _ h
    omega
  have hP0 : va_P D cl (X ++ va_pl L f) F.heap := hP.kept (fun k9 x hx => hold x.1 ((hP k9 x hx).lt))
  have hP1 : va_P D cl ((X ++ va_pl L f) ++ [(H.size, .inl (cA, n.toNatClampNeg, .inr (.inr (.inr (.inr (fun i => if i < n.toNatClampNeg then some (H.size + 1 + i) else none))))))]) F.heap := hP0.app (fun k9 x hx => by
    have h0 : k9 < 1 := (List.getElem?_eq_some_iff.mp hx).1
    rw [show k9 = 0 by omega] at hx
    cases hx
    exact f2)
  have hP2 : va_P D cl (((X ++ va_pl L f) ++ [(H.size, .inl (cA, n.toNatClampNeg, .inr (.inr (.inr (.inr (fun i => if i < n.toNatClampNeg then some (H.size + 1 + i) else none))))))]) ++ ((List.range n.toNatClampNeg).map (fun i => H.size + 1 + i)).map (fun a => (a, .inl (cy, z)))) F.heap := hP1.app (fun k9 x hx => by
    obtain ⟨a, ha, rfl⟩ := List.mem_map.mp (List.mem_of_getElem? hx)
    obtain ⟨i, hi, rfl⟩ := List.mem_map.mp ha
    exact hrow i (List.mem_range.mp hi))
  have hD2 : va_D A (((X ++ va_pl L f) ++ [(H.size, .inl (cA, n.toNatClampNeg, .inr (.inr (.inr (.inr (fun i => if i < n.toNatClampNeg then some (H.size + 1 + i) else none))))))]) ++ ((List.range n.toNatClampNeg).map (fun i => H.size + 1 + i)).map (fun a => (a, .inl (cy, z)))) := by
    have hD1 := hD.push (e := .inl (cA, n.toNatClampNeg, .inr (.inr (.inr (.inr (fun i => if i < n.toNatClampNeg then some (H.size + 1 + i) else none)))))) hP rfl (hA _ hS.1)
    generalize hW1 : (X ++ va_pl L f) ++ [(H.size, .inl (cA, n.toNatClampNeg, .inr (.inr (.inr (.inr (fun i => if i < n.toNatClampNeg then some (H.size + 1 + i) else none))))))] = W1 at hD1 hP1 ⊢
    have hle : ∀ (k9 : Nat) (x : Nat × va_E), W1[k9]? = some x → x.1 ≤ H.size := fun k9 x hx => by
      rw [← hW1] at hx
      by_cases hl : k9 < (X ++ va_pl L f).length
      · rw [List.getElem?_append_left hl] at hx
        exact Nat.le_of_lt ((hP k9 x hx).lt)
      · rw [List.getElem?_append_right (by omega)] at hx
        have h0 : k9 - (X ++ va_pl L f).length < 1 := (List.getElem?_eq_some_iff.mp hx).1
        rw [show k9 - (X ++ va_pl L f).length = 0 by omega] at hx
        cases hx
        exact Nat.le_refl _
    have hr : ∀ (k9 : Nat) (x : Nat × va_E), (((List.range n.toNatClampNeg).map (fun i => H.size + 1 + i)).map (fun a => ((a, .inl (cy, z)) : Nat × va_E)))[k9]? = some x → x.1 = H.size + 1 + k9 := fun k9 x hx => by
      rw [List.getElem?_map, List.getElem?_map] at hx
      by_cases h9 : k9 < n.toNatClampNeg
      · rw [List.getElem?_range h9] at hx
        cases hx
        rfl
      · have hn0 : (List.range n.toNatClampNeg)[k9]? = none := List.getElem?_eq_none (by rw [List.length_range]; omega)
        rw [hn0] at hx
        cases hx
    refine ⟨fun i j x y hi hj hxy => ?_, fun k9 x hx => ?_⟩
    · by_cases h1 : i < W1.length <;> by_cases h2 : j < W1.length
      · rw [List.getElem?_append_left h1] at hi
        rw [List.getElem?_append_left h2] at hj
        exact hD1.1 i j x y hi hj hxy
      · rw [List.getElem?_append_left h1] at hi
        rw [List.getElem?_append_right (by omega)] at hj
        have := hle _ _ hi
        have := hr _ _ hj
        omega
      · rw [List.getElem?_append_right (by omega)] at hi
        rw [List.getElem?_append_left h2] at hj
        have := hle _ _ hj
        have := hr _ _ hi
        omega
      · rw [List.getElem?_append_right (by omega)] at hi hj
        have := hr _ _ hi
        have := hr _ _ hj
        omega
    · by_cases h1 : k9 < W1.length
      · rw [List.getElem?_append_left h1] at hx
        exact hD1.2 k9 x hx
      · rw [List.getElem?_append_right (by omega)] at hx
        have := hr _ _ hx
        exact hA _ (by have := hS.1; omega)
  have hAr : ArrOfT s cA (.array ty) := fun N9 z9 => by
    obtain ⟨-, k9, hk9, cm9, hkk9⟩ := (hO 0 0 0).1
    exact ⟨(fun q hq => by cases hq), k9, hk9, cm9, hkk9⟩
  have hK2 : va_K D cl (tys ++ [(cA, .array ty)]) s := ⟨hK.1, fun k9 x hx => by
    by_cases hl : k9 < tys.length
    · rw [List.getElem?_append_left hl] at hx
      exact hK.2 k9 x hx
    · rw [List.getElem?_append_right (by omega)] at hx
      have h0 : k9 - tys.length < 1 := (List.getElem?_eq_some_iff.mp hx).1
      rw [show k9 - tys.length = 0 by omega] at hx
      cases hx
      exact ⟨hAr, fA⟩⟩
  obtain ⟨t, a1, b1⟩ := kk H.size (fun i => H.size + 1 + i) cA F.heap (fun i j _ _ h => by have h9 : H.size + 1 + i = H.size + 1 + j := h; omega) hnl hK2 (by rw [← vr_rows hnm]; exact vr_lay hP2) (by rw [← vr_rows hnm]; exact vr_layD hD2) ⟨by rw [f1]; have := hS.1; omega, fun x h1 h2 => (hold x (Nat.lt_of_lt_of_le h1 hS.1)).trans (hS.2.1 x h1 h2), hS.2.2⟩ F rfl X'
  refine ⟨t, step t ?_, b1⟩
  have e : T.heap.size = H.size := by rw [hT]
  rw [e]
  exact a1
end VGM
section IVM
variable {p : Program} {l : Launch} {e : Env} {R : Room} {s : State} {m : MethodId} {args : Array Value} {below : List Frame} {meth : Method} {c : Code} {H : Heap} {locs : List Loc} {cells slots : Nat} {Q : State → Prop}
variable {D : va_G} {cO : Nat → ClassId} {A : Nat → Prop} {mi pc : Nat} {ad : iv_A} {al : iv_L} {st : List Value} {h : iv_H} {ls : Array Slot}
/-- the addresses of an array of rows and of its rows -/
def iv_um (ad : iv_A) (n q : Nat) (r : Nat → Nat) : iv_A := (fun k => if k < n then ad.1 k else if k = n then q else r (k - n - 1), ad.2)
theorem iv_um_ag (ad : iv_A) (n q : Nat) (r : Nat → Nat) : iv_ag n ad (iv_um ad n q r) := ⟨rfl, fun k hk => if_pos hk⟩
theorem iv_w_muh {h : iv_H} (g : iv_gh h.length h) (N K q : Nat) (r : Nat → Nat) : iv_w (iv_um ad h.length q r) cO (iv_muh h N K) = (iv_w ad cO h ++ [(q, .inl (cO 6, N, .inr (.inr (.inr (.inr (fun i => if i < N then some (r i) else none))))))]) ++ va_pl ([] ++ (List.range N).map r) (vr_up (fun _ => .inl (cO 0, 0, .inl (fun _ => 0))) ((List.range N).map r) (.inl (cO 0, K, .inl (fun _ => 0)))) := by
  have ha := iv_um_ag ad h.length q r
  have e1 : iv_w (iv_um ad h.length q r) cO (iv_muh h N K) = iv_w (iv_um ad h.length q r) cO h ++ ((iv_um ad h.length q r).1 h.length, iv_e (iv_um ad h.length q r) cO (.inr (6, N, .inr (.inr (.inr (.inr (iv_muo N h.length))))))) :: (List.range N).map (fun i => (r i, (.inl (cO 0, K, .inl (fun _ => 0)) : va_E))) := by
    unfold iv_w iv_muh
    rw [List.mapIdx_append, List.mapIdx_cons]
    congr 1
    congr 1
    · simp
    · apply List.ext_getElem?
      intro j
      rw [List.getElem?_mapIdx, List.getElem?_map]
      by_cases hj : j < N
      · rw [List.getElem?_range hj, List.getElem?_replicate, if_pos hj]
        show some ((iv_um ad h.length q r).1 (j + 1 + h.length), _) = some (r j, _)
        have : (iv_um ad h.length q r).1 (j + 1 + h.length) = r j := by
          show (if j + 1 + h.length < h.length then _ else if j + 1 + h.length = h.length then q else r (j + 1 + h.length - h.length - 1)) = r j
          rw [if_neg (by omega), if_neg (by omega), show j + 1 + h.length - h.length - 1 = j by omega]
        rw [this]
        rfl
      · rw [List.getElem?_replicate, if_neg hj, List.getElem?_eq_none (l := List.range N) (by rw [List.length_range]; omega)]
        rfl
  rw [e1, iv_w_ag ha g, List.append_assoc, List.singleton_append, List.nil_append]
  have e2 : (iv_um ad h.length q r).1 h.length = q := by
    show (if h.length < h.length then _ else if h.length = h.length then q else _) = q
    rw [if_neg (by omega), if_pos rfl]
  have e3 : iv_e (iv_um ad h.length q r) cO (.inr (6, N, .inr (.inr (.inr (.inr (iv_muo N h.length)))))) = (.inl (cO 6, N, .inr (.inr (.inr (.inr (fun i => if i < N then some (r i) else none))))) : va_E) := by
    show Sum.inl (cO 6, (N, Sum.inr (Sum.inr (Sum.inr (Sum.inr (fun j => (iv_muo N h.length j).map (fun k => (iv_um ad h.length q r).1 k))))))) = _
    congr 1
    congr 1
    congr 1
    congr 1
    congr 1
    congr 1
    congr 1
    funext i
    unfold iv_muo
    by_cases hi : i < N
    · rw [if_pos hi, if_pos hi]
      show some (if h.length + 1 + i < h.length then _ else if h.length + 1 + i = h.length then q else r (h.length + 1 + i - h.length - 1)) = some (r i)
      rw [if_neg (by omega), if_neg (by omega), show h.length + 1 + i - h.length - 1 = i by omega]
    · rw [if_neg hi, if_neg hi]
      rfl
  rw [e2, e3]
  congr 1
  congr 1
  unfold va_pl
  rw [List.map_map]
  apply List.map_congr_left
  intro i hi
  show (r i, _) = (r i, vr_up _ _ _ (r i))
  rw [vr_up_in (List.mem_map.mpr ⟨i, hi, rfl⟩)]
theorem iv_gh_muh {h : iv_H} (g : iv_gh h.length h) (N K : Nat) : iv_gh (iv_muh h N K).length (iv_muh h N K) := by
  rw [iv_muh_len]
  intro j d hj
  unfold iv_muh at hj
  by_cases hjl : j < h.length
  · rw [List.getElem?_append_left hjl] at hj
    exact (g j d hj).mono (by omega)
  · rw [List.getElem?_append_right (by omega)] at hj
    generalize hx : j - h.length = x at hj
    cases x with
    | zero =>
      rw [List.getElem?_cons_zero] at hj
      cases hj
      intro i k hk
      unfold iv_muo at hk
      split at hk
      · cases hk
        omega
      · cases hk
    | succ x =>
      rw [List.getElem?_cons_succ, List.getElem?_replicate] at hj
      split at hj
      · cases hj
        exact fun e8 => by cases e8
      · cases hj
theorem iv_mstep {z : iv_Z} {op : Jvm.ClassFile.Instr} {c0 : List Value × iv_H} (hmu : iv_mu mi op st h = some c0) (hcd : iv_cd mi pc = some op) (X : iv_X D cO p s m args meth c mi) (I : iv_I D cO A s.heap mi ad al st h H locs ls) (hA : ∀ q, s.heap.size ≤ q → A q)
    (hrc : cells + (c0.2.length - h.length) ≤ R.cells) (hrs : slots + (iv_sz c0.2 - iv_sz h) ≤ R.slots)
    (kk : ∀ (ad' : iv_A) (H' : Heap) (locs' : List Loc) (ls' : Array Slot), iv_ag h.length ad ad' → iv_I D cO A s.heap mi ad' al c0.1 c0.2 H' locs' ls' → W p l e R s m args below meth c H' locs' (cells + (c0.2.length - h.length)) (slots + (iv_sz c0.2 - iv_sz h)) Q (F0 m (pc + 4) ls' (c0.1.map (iv_v ad')))) :
    W p l e R s m args below meth c H locs cells slots Q (F0 m pc ls (st.map (iv_v ad))) := by
  obtain ⟨hx, hb, hml, hown, hts, hini, hK⟩ := id X
  obtain ⟨hP, hD, hS, hl, ga, gs, gh⟩ := id I
  obtain ⟨idx, k, n, r0, rfl, hm, rfl, hn, hk, hn1, hk1, rfl⟩ := iv_mu_s hmu
  dsimp only at hrc hrs kk
  rw [iv_muh_len] at hrc kk
  rw [iv_muh_sz] at hrs kk
  have e1 : h.length + 1 + n.toNatClampNeg - h.length = 1 + n.toNatClampNeg := by omega
  have e2 : iv_sz h + n.toNatClampNeg + n.toNatClampNeg * k.toNatClampNeg - iv_sz h = n.toNatClampNeg + n.toNatClampNeg * k.toNatClampNeg := by omega
  rw [e1] at hrc kk
  rw [e2] at hrs kk
  have hcl : (Cond.classLink (iv_cn (iv_kf mi)) idx ("[" ++ (FieldType.array .int).toString)).before args s = true := by
    rw [show "[" ++ (FieldType.array .int).toString = "[[I" by decide +kernel]
    exact hts _ (iv_fMn hm)
  have hcy : s.vm.findClass (FieldType.array .int).toString = some (cO 0) := by
    rw [show (FieldType.array .int).toString = "[" ++ (FieldType.int).toString by decide +kernel]
    exact (hK.1.2 _ _ (iv_tys_get (t := 0) (ty := .int) rfl)).2
  have hP0 : va_P D iv_cl (iv_w ad cO h ++ va_pl [] (fun _ => .inl (cO 0, 0, .inl (fun _ => 0)))) H := by
    show va_P D iv_cl (iv_w ad cO h ++ []) H
    rw [List.append_nil]
    exact hP
  have hD0 : va_D A (iv_w ad cO h ++ va_pl [] (fun _ => .inl (cO 0, 0, .inl (fun _ => 0)))) := by
    show va_D A (iv_w ad cO h ++ [])
    rw [List.append_nil]
    exact hD
  rw [List.map_cons, List.map_cons]
  refine va_mna (ty := .int) (z := (k.toNatClampNeg, .inl (fun _ => 0))) hx hb hown hcl (va_AOA.use hK.2.2.2.2.1) (hts _ (iv_wo_s iv_ckA_all.1)) hcy hK.1 hP0 hD0 hS hA (Int32.not_lt.mpr hn) (Int32.not_lt.mpr hk) rfl rfl (by omega) (by show k.toNatClampNeg * 4 ≤ _; omega) (by omega) rfl rfl hrc hrs (fun c9 => ?_) (iv_d4 hcd rfl) (fun q r cA H1 hr1 hr2 k1 p1 d1 s1 => ?_)
  · show ({ cls := c9, slots := Array.replicate k.toNatClampNeg (.int 0), vm := .none } : Cell) = _
    rw [arrV_new]
    rfl
  · have hcA := iv_K_new hK (t := 6) (ty := .array .int) rfl k1
    subst hcA
    rw [← iv_w_muh (ad := ad) (cO := cO) gh] at p1 d1
    have ag := iv_um_ag ad h.length q r
    have k2 := kk (iv_um ad h.length q r) H1 locs ls ag ⟨p1, d1, s1, iv_ll_ag ag ga hl, ga.mono (by rw [iv_muh_len]; omega), .cons (iv_g_r (by rw [iv_muh_len]; omega)) (gs.tl.tl.mono (by rw [iv_muh_len]; omega)), iv_gh_muh gh _ _⟩
    rw [List.map_cons, iv_st_ag ag gs.tl.tl] at k2
    have e3 : iv_v (iv_um ad h.length q r) (.ref h.length) = .ref q := by
      show Value.ref (if h.length < h.length then _ else if h.length = h.length then q else _) = _
      rw [if_neg (by omega), if_pos rfl]
    rw [e3, ← Nat.add_assoc, ← Nat.add_assoc] at k2
    exact k2
end IVM
set_option maxHeartbeats 4000000 in
set_option maxRecDepth 20000 in
theorem iv_sound : ∀ (n : Nat) (z : iv_Z) (d mi : Nat) (S : iv_S) (r : Option Value × iv_H), iv_run z n d mi S = some r → iv_SD z d mi S r := by
  intro n
  induction n with
  | zero => intro z d mi S r h; cases h
  | succ n ih =>
    intro z d mi S r h
    unfold iv_run at h
    split at h
    · cases h
    · rename_i op hcd
      split at h
      · rename_i hret
        obtain ⟨v, hv, rfl⟩ := Option.map_eq_some_iff.mp h
        intro _ p l e R s m args below meth c H locs cells slots mc ms Q D cO A ad ls X I hA h1 h2 h3 h4 h5 h6 hE hEnd
        obtain ⟨hP, hD, hS, hl, ga, gs, gh⟩ := id I
        have hg : iv_gr (v, S.2.2.2) := by
          refine ⟨?_, gh⟩
          rcases iv_re_v hv with ⟨_, _, rfl, _⟩ | ⟨x, ty, _, e1, rfl, _⟩ | ⟨x, _, e1, rfl, _⟩ | ⟨x, ty, _, e1, rfl, _⟩
          · exact iv_gl_nil _
          · rw [e1] at gs; exact gs
          · rw [e1] at gs; exact gs
          · rw [e1] at gs; exact gs
        refine W.widen (k := mc) (n := ms) (by omega) (by omega) ?_
        exact hEnd ad H locs ls S.1 op S.2.2.1 hcd hv iv_ag.rf hg hP hD hS
      · split at h
        · rename_i c0 hca
          split at h
          · cases h
          · rename_i d'
            split at h
            · cases h
            · rename_i q hq
              intro _ p l e R s m args below meth c H locs cells slots mc ms Q D cO A ad ls X I hA h1 h2 h3 h4 h5 h6 hE hEnd
              obtain ⟨hP, hD, hS, hl, ga, gs, gh⟩ := id I
              obtain ⟨hx, hb, hml, hown, hts, hini, hK⟩ := id X
              have la := iv_run_le _ _ _ _ _ _ hq
              have lb : q.2.length ≤ r.2.length ∧ iv_sz q.2 ≤ iv_sz r.2 := iv_run_le _ _ _ _ _ _ h
              dsimp only at la
              have hSD : iv_SD z d' c0.1 (0, iv_en c0.1 c0.2.1, [], S.2.2.2) q := ih z d' c0.1 _ q hq
              obtain ⟨idx, mj, as, rest, t1, t2, t4, t5⟩ := iv_ca_s hca
              obtain ⟨u1, u2, u3, u4, u5, u6⟩ := iv_fT t1
              obtain ⟨f1, f2, f3, f4, f5, f6, f7, f8⟩ := iv_fM u1
              have hF : ∀ x, va_A (iv_w ad cO S.2.2.2) H.size x → A x := by
                intro x hx1
                rcases hx1 with ⟨k, e1, hk⟩ | hx1
                · exact hD.2 k (x, e1) hk
                · exact hA x (Nat.le_trans hS.1 hx1)
              have hrest : ∀ {as' : List Value}, S.2.2.1 = as'.reverse ++ rest → iv_gl S.2.2.2.length rest := fun hst v hv => gs v (by rw [hst]; exact List.mem_append_right _ hv)
              have hroom : (iv_rm d' (q.2.length - S.2.2.2.length) (iv_sz q.2 - iv_sz S.2.2.2)).frames + 1 ≤ R.frames ∧ 8 + (iv_mx mj + 11) + (iv_rm d' (q.2.length - S.2.2.2.length) (iv_sz q.2 - iv_sz S.2.2.2)).locals ≤ R.locals := by
                refine ⟨by show d' + 6 + 1 ≤ R.frames; omega, ?_⟩
                show 8 + (iv_mx mj + 11) + (44 * d' + 2000) ≤ R.locals
                omega
              have hcs : cells + (q.2.length - S.2.2.2.length) ≤ R.cells ∧ slots + (iv_sz q.2 - iv_sz S.2.2.2) ≤ R.slots := by omega
              have K : iv_gl S.2.2.2.length rest → ∀ (ad' : iv_A) (H1 : Heap) (locs1 : List Loc), iv_ag S.2.2.2.length ad ad' → iv_gr q → va_P D iv_cl (iv_w ad' cO q.2) H1 → va_D A (iv_w ad' cO q.2) → va_S A s.heap H1 locs1 → W p l e R s m args below meth c H1 locs1 (cells + (q.2.length - S.2.2.2.length)) (slots + (iv_sz q.2 - iv_sz S.2.2.2)) Q (F0 m (S.1 + 3) ls ((q.1.map (iv_v ad')).toList ++ rest.map (iv_v ad))) := by
                intro grest ad' H1 locs1 ag hgr p1 d1 s1
                have e1 : (q.1.toList ++ rest).map (iv_v ad') = (q.1.map (iv_v ad')).toList ++ rest.map (iv_v ad) := by
                  rw [List.map_append, iv_st_ag ag grest]
                  cases q.1 <;> rfl
                rw [← e1]
                have hc2 : c0.2.2 = rest := by rcases t5 with ⟨_, _, _, _, rfl, _⟩ | ⟨_, _, _, _, _, rfl, _⟩ <;> rfl
                rw [hc2] at h
                exact ih z (d' + 1) mi (S.1 + 3, S.2.1, q.1.toList ++ rest, q.2) r h () X ⟨p1, d1, s1, iv_ll_ag ag ga hl, ga.mono la.1, iv_gl_app hgr.1 (grest.mono la.1), hgr.2⟩ hA (by show _ + _ + (r.2.length - q.2.length) ≤ mc; omega) (by show _ + _ + (iv_sz r.2 - iv_sz q.2) ≤ ms; omega) h3 h4 h5 h6 (by rw [ag.1]; exact hE)
                  (fun ad2 H2 locs2 ls2 pc2 op2 st2 g1 g2 g3 g4 g5 g6 g7 => hEnd ad2 H2 locs2 ls2 pc2 op2 st2 g1 g2 (ag.tr g3 la.1) g4 g5 g6 g7)
              have hPc : ∀ (vs : List Value) (U : State), U.heap = H → s.WarmedH U.vm → iv_Pc z D cO ad vs S.2.2.2 H.size ((vs.map (iv_v ad)).toArray) U := fun vs U hU hW => ⟨rfl, by rw [hU], by rw [hU]; exact hP, hK.warm hW, hD.weaken (fun _ _ _ _ => trivial), by rw [hU]; exact ((hE.kept (fun a g1 g2 => hS.2.1 a g1 g2)).narrow hF).warm hW⟩
              rcases t5 with ⟨rfl, rc, ri, hst, rfl, hmx, hkn⟩ | ⟨v0, ci, rc, hv0, hst, rfl, hmx, hkind⟩
              · have gas : iv_gl S.2.2.2.length as := fun v hv => gs v (by rw [hst]; exact List.mem_append_left _ (List.mem_reverse.mpr hv))
                have hM := iv_met (l := l) (D := D) (cO := cO) (ad := ad) (sz := H.size) hSD f1 f3 f6 (fun z => by rw [ri] at z; cases z) hmx gas gh
                have hstack : (F0 m S.1 ls (S.2.2.1.map (iv_v ad))).stack = (as.map (iv_v ad)).reverse ++ rest.map (iv_v ad) := by
                  show S.2.2.1.map (iv_v ad) = _
                  rw [hst, List.map_append, List.map_reverse]
                cases hnn : iv_nn (iv_kf mi) idx with
                | none => exact iv_callg (va_runS (As := as.map (iv_v ad)) (rest := rest.map (iv_v ad)) ⟨hx, hb, hml, hown, hts⟩ hM ⟨callB_of (iv_na mj) hts (iv_GI (fun w hw => by rcases List.mem_cons.mp hw with rfl | hw; exact f1; exact hw)) rfl rfl rfl (hts _ f2) (hts _ ((u2 hkn).2 hnn).1) f4 hroom, hts _ (f7 rc).1⟩ ⟨iv_Pc_blind, hPc as⟩ rfl (by rw [List.length_map]; exact t2) hl.1 hstack (lv_room (by rw [iv_cats]; exact t4)) (iv_d3 hcd rfl) hcs) hS hF (K (hrest hst))
                | some host => exact iv_callg (va_runSN (As := as.map (iv_v ad)) (rest := rest.map (iv_v ad)) ⟨hx, hb, hml, hown, hts⟩ hM ⟨va_cnB (iv_na mj) hts (iv_GI (fun w hw => by rcases List.mem_cons.mp hw with rfl | hw; exact f1; exact hw)) rfl rfl rfl (hK.2.2.1 _ ((u2 hkn).1 host hnn)) (hts _ f2) f4 hroom, hts _ (f7 rc).1, trivial⟩ ⟨iv_Pc_blind, hPc as⟩ rfl (by rw [List.length_map]; exact t2) hl.1 hstack (lv_room (by rw [iv_cats]; exact t4)) (iv_d3 hcd rfl) hcs) hS hF (K (hrest hst))
              · obtain ⟨k1, ⟨T, N, k2⟩, k3, k4⟩ := f8 ci rc
                obtain ⟨a0, ha0, hrv⟩ := iv_rcv hK hP hS hE k2 hv0
                have c0v : v0.category = 1 := by rcases hv0 with ⟨b, rfl, _⟩ | ⟨b, rfl, _⟩ <;> rfl
                have gas : iv_gl S.2.2.2.length (v0 :: as) := by
                  intro v hv
                  rcases List.mem_cons.mp hv with rfl | hv
                  · exact gs _ (by rw [hst]; exact List.mem_append_right _ List.mem_cons_self)
                  · exact gs v (by rw [hst]; exact List.mem_append_left _ (List.mem_reverse.mpr hv))
                have hlen : (iv_ex (v0 :: as)).length ≤ iv_mx mj := by
                  rw [iv_ex_cons, if_neg (by rw [c0v]; decide), List.length_cons]
                  exact hmx
                have grest : iv_gl S.2.2.2.length rest := fun v hv => gs v (by rw [hst]; exact List.mem_append_right _ (List.mem_cons_of_mem _ hv))
                have hM := iv_met (l := l) (D := D) (cO := cO) (ad := ad) (sz := H.size) hSD f1 f3 f6 (fun z => (k3 z).1) hlen gas gh
                have hstack : (F0 m S.1 ls (S.2.2.1.map (iv_v ad))).stack = (as.map (iv_v ad)).reverse ++ .ref a0 :: rest.map (iv_v ad) := by
                  show S.2.2.1.map (iv_v ad) = _
                  rw [hst, List.map_append, List.map_reverse, List.map_cons, ha0]
                have hPv : ∀ U : State, U.heap = H → s.WarmedH U.vm → iv_Pc z D cO ad (v0 :: as) S.2.2.2 H.size ((Value.ref a0 :: as.map (iv_v ad)).toArray) U := by
                  intro U hU hW
                  have g := hPc (v0 :: as) U hU hW
                  rw [List.map_cons, ha0] at g
                  exact g
                have K2 := K grest
                have fin : ∀ {st0 : List Value}, va_Run p l e R s m args below meth c H locs cells slots (q.2.length - S.2.2.2.length) (iv_sz q.2 - iv_sz S.2.2.2) (F0 m S.1 ls st0) (rest.map (iv_v ad)) (iv_Qc D cO (va_A (iv_w ad cO S.2.2.2) H.size) ad S.2.2.2.length q (Value.ref a0 :: as.map (iv_v ad)).toArray) (va_A (iv_w ad cO S.2.2.2) H.size) → W p l e R s m args below meth c H locs cells slots Q (F0 m S.1 ls st0) := fun hr => iv_callg hr hS hF K2
                rcases hkind with ⟨rfl, ri, hnn, hk3⟩ | ⟨rfl, ri, hkn⟩ | ⟨rfl, ri, hk3⟩
                · rcases u6 with hk | hk | hk | hk
                  · obtain ⟨w1, w2⟩ := (u2 hk).2 hnn
                    obtain ⟨w3, w4⟩ : Cond.selects (iv_rn mj) (iv_y mj) (iv_y mj) ∈ iv_Wd ∧ iv_rn mj = (iv_y mj).cls := by
                      rcases w2 with w2 | w2 | w2
                      · rw [ri] at w2; cases w2
                      · rw [rc] at w2; cases w2
                      · exact w2
                    rw [w4] at hrv w3
                    refine fin (va_runV (C := (iv_y mj).cls) (As := as.map (iv_v ad)) (rest := rest.map (iv_v ad)) ⟨hx, hb, hml, hown, hts⟩ hM (cwV (iv_na mj) hts (iv_GI (fun w hw => ?_)) rfl rfl rfl ⟨rfl, f4⟩ hroom) ⟨iv_Pc_blind, hrv, hPv⟩ rfl (by rw [List.length_map]; exact t2) hl.1 hstack (lv_room (by rw [iv_cats]; exact t4)) (iv_d3 hcd rfl) hcs)
                    simp only [wsV, List.mem_append, List.mem_cons, List.not_mem_nil, or_false] at hw
                    rcases hw with (rfl | rfl | rfl | rfl) | hw
                    · exact w1
                    · exact k1
                    · exact w3
                    · exact f2
                    · rcases List.mem_cons.mp hw with rfl | hw
                      · exact f1
                      · exact hw
                  · obtain ⟨w1, w2, w3⟩ := u3 hk
                    refine fin (va_runU (C := iv_rn mj) (owner := (iv_y mj).cls) (x := iv_y mj) (As := as.map (iv_v ad)) (rest := rest.map (iv_v ad)) ⟨hx, hb, hml, hown, hts⟩ hM (va_cwU (iv_na mj) hts (iv_GI (fun w hw => ?_)) rfl rfl rfl rfl f4 hroom) ⟨iv_Pc_blind, hrv, hPv⟩ rfl (by rw [List.length_map]; exact t2) hl.1 hstack (lv_room (by rw [iv_cats]; exact t4)) (iv_d3 hcd rfl) hcs)
                    simp only [va_wsU, List.mem_append, List.mem_cons, List.not_mem_nil, or_false] at hw
                    rcases hw with (rfl | rfl | rfl | rfl | rfl) | hw
                    · exact w1
                    · exact w3
                    · exact w2
                    · exact k1
                    · exact f2
                    · rcases List.mem_cons.mp hw with rfl | hw
                      · exact f1
                      · exact hw
                  · obtain ⟨x, x0, w1, w2, w3, w4, w5⟩ := u4 hk
                    obtain ⟨y1, -, -, y4, -⟩ := iv_fM x0
                    refine fin (va_runU (C := iv_rn mj) (owner := (iv_y x).cls) (x := iv_y x) (As := as.map (iv_v ad)) (rest := rest.map (iv_v ad)) ⟨hx, hb, hml, hown, hts⟩ hM (va_cwO (iv_na mj) hts (iv_GI (fun w hw => ?_)) rfl rfl rfl y1 ⟨y4.1, y4.2.1, by rw [w5]; exact f4.2.2⟩ hroom) ⟨iv_Pc_blind, hrv, hPv⟩ rfl (by rw [List.length_map]; exact t2) hl.1 hstack (lv_room (by rw [iv_cats]; exact t4)) (iv_d3 hcd rfl) hcs)
                    simp only [va_wsO, List.mem_append, List.mem_cons, List.not_mem_nil, or_false] at hw
                    rcases hw with (rfl | rfl | rfl | rfl | rfl | rfl) | hw
                    · exact w1
                    · exact w2
                    · exact w3
                    · exact w4
                    · exact k1
                    · exact f2
                    · rcases List.mem_cons.mp hw with rfl | hw
                      · exact f1
                      · exact hw
                  · exact absurd hk hk3
                · obtain ⟨nm, rt⟩ := k3 ri
                  have hws : iv_ws mj = Cond.code (iv_y mj) (iv_by mj) (iv_mx mj) none :: iv_Wd := by unfold iv_ws; rw [rt]
                  cases hnn : iv_nn (iv_kf mi) idx with
                  | none => exact fin (va_runI (As := as.map (iv_v ad)) (rest := rest.map (iv_v ad)) ⟨hx, hb, hml, hown, hts⟩ hM ⟨callB_of (iv_na mj) hts (iv_GI (fun w hw => by rcases List.mem_cons.mp hw with rfl | hw; exact f1; exact hw)) hws rfl rfl (hts _ f2) (hts _ ((u2 hkn).2 hnn).1) f4 hroom, nm, hts _ k1⟩ ⟨iv_Pc_blind, hPv⟩ rfl (by rw [List.length_map]; exact t2) hl.1 hstack (lv_room (by rw [iv_cats]; exact t4)) (iv_d3 hcd rfl) hcs)
                  | some host => exact fin (va_runIN (As := as.map (iv_v ad)) (rest := rest.map (iv_v ad)) ⟨hx, hb, hml, hown, hts⟩ hM ⟨va_cnB (iv_na mj) hts (iv_GI (fun w hw => by rcases List.mem_cons.mp hw with rfl | hw; exact f1; exact hw)) hws rfl rfl (hK.2.2.1 _ ((u2 hkn).1 host hnn)) (hts _ f2) f4 hroom, nm, hts _ k1⟩ ⟨iv_Pc_blind, hPv⟩ rfl (by rw [List.length_map]; exact t2) hl.1 hstack (lv_room (by rw [iv_cats]; exact t4)) (iv_d3 hcd rfl) hcs)
                · obtain ⟨w1, w2, w3, w4⟩ := u5 hk3
                  have nm := k4 ri
                  rw [w4] at hrv k2
                  refine fin (va_runSU (C := iv_cn (iv_kf mi)) (As := as.map (iv_v ad)) (rest := rest.map (iv_v ad)) (iv_cat hK k2) ⟨hx, hb, hml, hown, hts⟩ hM (va_cwSU (iv_na mj) hts (iv_GI (fun w hw => ?_)) rfl rfl rfl ⟨nm, f4.2.2⟩ hroom) ⟨iv_Pc_blind, hrv, hPv⟩ rfl (by rw [List.length_map]; exact t2) hl.1 hstack (lv_room (by rw [iv_cats]; exact t4)) (iv_d3 hcd rfl) hcs)
                  simp only [va_wsSU, List.mem_append, List.mem_cons, List.not_mem_nil, or_false] at hw
                  rcases hw with (rfl | rfl | rfl | rfl | rfl) | hw
                  · exact w1
                  · exact w2
                  · exact w3
                  · exact k1
                  · exact f2
                  · rcases List.mem_cons.mp hw with rfl | hw
                    · exact f1
                    · exact hw
        · split at h
          · rename_i c0 hmu
            intro _ p l e R s m args below meth c H locs cells slots mc ms Q D cO A ad ls X I hA h1 h2 h3 h4 h5 h6 hE hEnd
            have lb : c0.2.length ≤ r.2.length ∧ iv_sz c0.2 ≤ iv_sz r.2 := iv_run_le _ _ _ _ _ _ h
            have la : S.2.2.2.length ≤ c0.2.length ∧ iv_sz S.2.2.2 ≤ iv_sz c0.2 := by
              obtain ⟨_, _, _, _, -, -, -, -, -, -, -, rfl⟩ := iv_mu_s hmu
              dsimp only
              rw [iv_muh_len, iv_muh_sz]
              exact ⟨by omega, by omega⟩
            refine iv_mstep (z := z) hmu hcd X I hA (by omega) (by omega) (fun ad' H' locs' ls' ag I' => ?_)
            exact ih z d mi (S.1 + 4, S.2.1, c0.1, c0.2) r h () X I' hA (by show _ + _ + (r.2.length - c0.2.length) ≤ mc; omega) (by show _ + _ + (iv_sz r.2 - iv_sz c0.2) ≤ ms; omega) h3 h4 h5 h6 (by rw [ag.1]; exact hE)
              (fun ad2 H2 locs2 ls2 pc2 op2 st2 g1 g2 g3 g4 g5 g6 g7 => hEnd ad2 H2 locs2 ls2 pc2 op2 st2 g1 g2 (ag.tr g3 la.1) g4 g5 g6 g7)
          · split at h
            · cases h
            · rename_i o hop
              split at h
              · cases h
              · rename_i h' hef
                intro _ p l e R s m args below meth c H locs cells slots mc ms Q D cO A ad ls X I hA h1 h2 h3 h4 h5 h6 hE hEnd
                have la := iv_ef_le hef
                have lb : h'.length ≤ r.2.length ∧ iv_sz h' ≤ iv_sz r.2 := iv_run_le _ _ _ _ _ _ h
                refine iv_step hop hef hcd X I hA hE (by omega) (by omega) ⟨by omega, by omega⟩ (fun ad' H' locs' ls' ag I' => ?_)
                exact ih z d mi (o.1, o.2.1, o.2.2.1, h') r h () X I' hA (by show _ + _ + (r.2.length - h'.length) ≤ mc; omega) (by show _ + _ + (iv_sz r.2 - iv_sz h') ≤ ms; omega) h3 h4 h5 h6 (by rw [ag.1]; exact hE)
                  (fun ad2 H2 locs2 ls2 pc2 op2 st2 g1 g2 g3 g4 g5 g6 g7 => hEnd ad2 H2 locs2 ls2 pc2 op2 st2 g1 g2 (ag.tr g3 la.1) g4 g5 g6 g7)
