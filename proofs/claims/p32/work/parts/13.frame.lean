/-! FRAME: a run that makes no new cell is the same run with more cells behind -/
theorem fr_g {h x : iv_H} {k : Nat} {c : iv_C} (e : h[k]? = some c) : (h ++ x)[k]? = some c := by
  rw [List.getElem?_append_left (List.getElem?_eq_some_iff.mp e).1]
  exact e
theorem fr_ai {h x : iv_H} {k : Nat} {q : Nat × Nat × (Nat → Int32)} (e : iv_ai h k = some q) : iv_ai (h ++ x) k = some q := by
  unfold iv_ai
  rw [fr_g (iv_ai_s e)]
theorem fr_aj {h x : iv_H} {k : Nat} {q : Nat × Nat × (Nat → Int64)} (e : iv_aj h k = some q) : iv_aj (h ++ x) k = some q := by
  unfold iv_aj
  rw [fr_g (iv_aj_s e)]
theorem fr_aq {h x : iv_H} {k : Nat} {q : Nat × Nat × (Nat → Option Nat)} (e : iv_aq h k = some q) : iv_aq (h ++ x) k = some q := by
  unfold iv_aq
  rw [fr_g (iv_aq_s e)]
theorem fr_gf {mi idx k : Nat} {h x : iv_H} {v : Value} (e : iv_gf mi idx h k = some v) : iv_gf mi idx (h ++ x) k = some v := by
  obtain ⟨ci, j, fs, e1, e2, e3⟩ := iv_gf_s e
  unfold iv_gf
  rw [e1]
  dsimp only
  rw [fr_g e2]
  dsimp only
  rw [if_pos rfl]
  exact e3
theorem fr_pf {mi idx k : Nat} {h x : iv_H} {v : Value} {f : Option Nat × iv_C} (e : iv_pf mi idx h k v = some f) : iv_pf mi idx (h ++ x) k v = some f := by
  unfold iv_pf at e ⊢
  split at e
  · split at e
    · rename_i o ho
      rw [fr_g ho]
      exact e
    · cases e
  · cases e
theorem fr_oc {h x : iv_H} {b ci : Nat} (e : iv_oc h b ci = true) : iv_oc (h ++ x) b ci = true := by
  unfold iv_oc at e ⊢
  split at e
  · rename_i o ho
    rw [fr_g ho]
    exact e
  · cases e
theorem fr_ao {h x : iv_H} {b t : Nat} (e : iv_ao_ h b t = true) : iv_ao_ (h ++ x) b t = true := by
  unfold iv_ao_ at e ⊢
  split at e
  · rename_i a ha
    rw [fr_g ha]
    exact e
  · cases e
theorem fr_qc {h x : iv_H} {t b : Nat} (e : iv_qc h t b = true) : iv_qc (h ++ x) t b = true := by
  unfold iv_qc at e ⊢
  split at e
  · rename_i o ho
    rw [fr_g ho]
    exact e
  · cases e
theorem fr_ald {ty : FieldType} {pc : Nat} {al : iv_L} {st : List Value} {h x : iv_H} {o : iv_O} (e : iv_ald ty pc al st h = some o) : iv_ald ty pc al st (h ++ x) = some o := by
  unfold iv_ald at e
  obtain ⟨i, r1, rfl, e_1⟩ := iv_i_s e
  obtain ⟨k, r, rfl, e_2⟩ := iv_r_s e_1
  obtain ⟨q, e1, e_3⟩ := Option.bind_eq_some_iff.mp e_2
  show (iv_ai (h ++ x) k).bind _ = some o
  rw [fr_ai e1]
  exact e_3
theorem fr_ast {ty : FieldType} {pc : Nat} {al : iv_L} {st : List Value} {h x : iv_H} {o : iv_O} (e : iv_ast ty pc al st h = some o) : iv_ast ty pc al st (h ++ x) = some o := by
  unfold iv_ast at e
  obtain ⟨v, r2, rfl, e_1⟩ := iv_i_s e
  obtain ⟨i, r1, rfl, e_2⟩ := iv_i_s e_1
  obtain ⟨k, r, rfl, e_3⟩ := iv_r_s e_2
  obtain ⟨q, e1, e_4⟩ := Option.bind_eq_some_iff.mp e_3
  show (iv_ai (h ++ x) k).bind _ = some o
  rw [fr_ai e1]
  exact e_4
theorem fr_cpy {z : iv_Z} {pc : Nat} {al : iv_L} {st : List Value} {h x : iv_H} {o : iv_O} (e : iv_cpy z pc al st h = some o) : iv_cpy z pc al st (h ++ x) = some o := by
  unfold iv_cpy at e
  obtain ⟨n, r4, rfl, e_1⟩ := iv_i_s e
  obtain ⟨dp, r3, rfl, e_2⟩ := iv_i_s e_1
  obtain ⟨b, r2, rfl, e_3⟩ := iv_r_s e_2
  obtain ⟨sp, r1, rfl, e_4⟩ := iv_i_s e_3
  split at e_4
  · obtain ⟨q, e1, e_5⟩ := Option.bind_eq_some_iff.mp e_4
    obtain ⟨u, e2, e_6⟩ := Option.bind_eq_some_iff.mp e_5
    show ((iv_ai (h ++ x) _).bind fun q => (iv_ai (h ++ x) b).bind _) = some o
    rw [fr_ai e1]
    show ((iv_ai (h ++ x) b).bind _) = some o
    rw [fr_ai e2]
    exact e_6
  · obtain ⟨q, e1, e_5⟩ := Option.bind_eq_some_iff.mp e_4
    obtain ⟨u, e2, e_6⟩ := Option.bind_eq_some_iff.mp e_5
    show ((iv_zi z _).bind fun q => (iv_ai (h ++ x) b).bind _) = some o
    rw [e1]
    show ((iv_ai (h ++ x) b).bind _) = some o
    rw [fr_ai e2]
    exact e_6
  · cases e_4
theorem fr_al_n {pc : Nat} {al : iv_L} {st : List Value} {h x : iv_H} {ty : FieldType} {o : iv_O} (e : iv_ald ty pc al st h = some o) : iv_ald ty pc al st (h ++ x) = some o := fr_ald e
set_option maxHeartbeats 2000000 in
theorem fr_op {z : iv_Z} {mi pc : Nat} {op : Jvm.ClassFile.Instr} {al : iv_L} {st : List Value} {h x : iv_H} {o : iv_O} (e : iv_op z mi pc op al st h = some o) (hn : ∀ c, o.2.2.2 ≠ some (none, c)) : iv_op z mi pc op al st (h ++ x) = some o := by
  cases op with
  | getfield idx =>
    rcases iv_gfd_s e with ⟨k, r, v, rfl, e1, rfl⟩ | ⟨k, r, v, rfl, e1, rfl⟩
    · show ((iv_zf z mi idx k).bind _) = _
      rw [e1]
      rfl
    · show ((iv_gf mi idx (h ++ x) k).bind _) = _
      rw [fr_gf e1]
      rfl
  | putfield idx =>
    obtain ⟨v, r1, rfl, e_1⟩ := iv_1or2_s (show iv_1or2 _ _ = some o from e)
    obtain ⟨k, r, rfl, e_2⟩ := iv_r_s e_1
    obtain ⟨q, e1, e_3⟩ := Option.bind_eq_some_iff.mp e_2
    show ((iv_pf mi idx (h ++ x) k v).bind _) = _
    rw [fr_pf e1]
    exact e_3
  | new idx =>
    obtain ⟨ci, e1, e_1⟩ := Option.bind_eq_some_iff.mp (show (iv_nc (iv_kf mi) idx).bind _ = some o from e)
    cases e_1
    exact absurd rfl (hn _)
  | newarray a =>
    obtain ⟨n, r, rfl, e_1⟩ := iv_i_s (show iv_i _ _ = some o from e)
    split at e_1
    · cases e_1
      exact absurd rfl (hn _)
    · cases e_1
  | anewarray idx =>
    obtain ⟨n, r, rfl, e_1⟩ := iv_i_s (show iv_i _ _ = some o from e)
    obtain ⟨t, e1, e_2⟩ := Option.bind_eq_some_iff.mp e_1
    split at e_2
    · cases e_2
      exact absurd rfl (hn _)
    · cases e_2
  | invokevirtual idx =>
    obtain ⟨k, r, t, n, f, rfl, e1, f1, hn9, h8, rfl⟩ := iv_cln_s e
    exact absurd rfl (hn _)
  | arraylength =>
    rcases iv_alen_s e with ⟨k, r, a, rfl, f1, ⟨ty, f2⟩, rfl⟩ | ⟨k, r, q, rfl, hz, rfl⟩
    · simp only [iv_op, iv_sem]
      rw [fr_g f1]
      dsimp only
      rw [f2]
      rfl
    · show ((iv_zi z k).bind _) = _
      rw [hz]
      rfl
  | iaload =>
    rcases iv_iald_s e with ⟨i, k, r, q, rfl, hz, hin, hty, rfl⟩ | e1
    · exact e
    · have e2 := fr_ald (x := x) e1
      obtain ⟨i, k, r, t, n, f, rfl, -⟩ := iv_ald_s e1
      exact e2
  | baload =>
    rcases iv_bald_s e with ⟨i, k, r, q, rfl, hz, hin, hty, rfl⟩ | e1 | e1
    · exact e
    · have e2 := fr_ald (x := x) e1
      obtain ⟨i, k, r, t, n, f, rfl, -⟩ := iv_ald_s e1
      show (match iv_ald .byte pc al _ (h ++ x) with | some S => some S | none => iv_ald .boolean pc al _ (h ++ x)) = some o
      rw [e2]
    · have e2 := fr_ald (x := x) e1
      obtain ⟨i, k, r, t, n, f, rfl, f1, f2, f3, -⟩ := iv_ald_s e1
      have e3 : iv_ald .byte pc al (.int i :: .ref k :: r) (h ++ x) = none := by
        cases hb : iv_ald .byte pc al (.int i :: .ref k :: r) (h ++ x) with
        | none => rfl
        | some o2 =>
          obtain ⟨i', k', r', t', n', f', e4, g1, g2, g3, -⟩ := iv_ald_s hb
          cases e4
          cases (fr_g (x := x) f1).symm.trans g1
          cases f3.symm.trans g3
      show (match iv_ald .byte pc al _ (h ++ x) with | some S => some S | none => iv_ald .boolean pc al _ (h ++ x)) = some o
      rw [e3]
      exact e2
  | iastore => exact fr_ast e
  | bastore =>
    rcases iv_bast_s e with e1 | e1
    · have e2 := fr_ast (x := x) e1
      show (match iv_ast .byte pc al st (h ++ x) with | some S => some S | none => iv_ast .boolean pc al st (h ++ x)) = some o
      rw [e2]
    · have e2 := fr_ast (x := x) e1
      obtain ⟨v, i, k, r, t, n, f, rfl, f1, f2, f3, -⟩ := iv_ast_s e1
      have e3 : iv_ast .byte pc al (.int v :: .int i :: .ref k :: r) (h ++ x) = none := by
        cases hb : iv_ast .byte pc al (.int v :: .int i :: .ref k :: r) (h ++ x) with
        | none => rfl
        | some o2 =>
          obtain ⟨v', i', k', r', t', n', f', e4, g1, g2, g3, -⟩ := iv_ast_s hb
          cases e4
          cases (fr_g (x := x) f1).symm.trans g1
          cases f3.symm.trans g3
      show (match iv_ast .byte pc al _ (h ++ x) with | some S => some S | none => iv_ast .boolean pc al _ (h ++ x)) = some o
      rw [e3]
      exact e2
  | laload =>
    obtain ⟨i, r1, rfl, e_1⟩ := iv_i_s (show iv_i _ _ = some o from e)
    obtain ⟨k, r, rfl, e_2⟩ := iv_r_s e_1
    obtain ⟨q, e1, e_3⟩ := Option.bind_eq_some_iff.mp e_2
    show ((iv_aj (h ++ x) k).bind _) = _
    rw [fr_aj e1]
    exact e_3
  | lastore =>
    obtain ⟨v, r2, rfl, e_1⟩ := iv_j_s (show iv_j _ _ = some o from e)
    obtain ⟨i, r1, rfl, e_2⟩ := iv_i_s e_1
    obtain ⟨k, r, rfl, e_3⟩ := iv_r_s e_2
    obtain ⟨q, e1, e_4⟩ := Option.bind_eq_some_iff.mp e_3
    show ((iv_aj (h ++ x) k).bind _) = _
    rw [fr_aj e1]
    exact e_4
  | aaload =>
    obtain ⟨i, r1, rfl, e_1⟩ := iv_i_s (show iv_i _ _ = some o from e)
    obtain ⟨k, r, rfl, e_2⟩ := iv_r_s e_1
    obtain ⟨q, e1, e_3⟩ := Option.bind_eq_some_iff.mp e_2
    show ((iv_aq (h ++ x) k).bind _) = _
    rw [fr_aq e1]
    exact e_3
  | aastore =>
    obtain ⟨b, r2, rfl, e_1⟩ := iv_r_s (show iv_r _ _ = some o from e)
    obtain ⟨i, r1, rfl, e_2⟩ := iv_i_s e_1
    obtain ⟨k, r, rfl, e_3⟩ := iv_r_s e_2
    obtain ⟨q, e1, e_4⟩ := Option.bind_eq_some_iff.mp e_3
    split at e_4
    · rename_i hc
      show ((iv_aq (h ++ x) k).bind _) = _
      rw [fr_aq e1]
      show (if iv_in i q.2.1 = true ∧ iv_qc (h ++ x) q.1 b = true then _ else none) = _
      rw [if_pos ⟨hc.1, fr_qc hc.2⟩]
      exact e_4
    · cases e_4
  | checkcast idx =>
    rcases iv_cst_s e with ⟨k, r, t, a, rfl, e1, f1, rfl, rfl⟩ | ⟨k, r, ci, fs, rfl, e1, f1, rfl⟩
    · simp only [iv_op, iv_sem, iv_r]
      rw [e1]
      dsimp only
      rw [if_pos (by unfold iv_ao_; rw [fr_g f1]; exact decide_eq_true rfl)]
    · have e2 := e
      simp only [iv_op, iv_sem, iv_r] at e2 ⊢
      split at e2
      · rename_i t ht
        (try rw [ht])
        (try dsimp only)
        split at e2
        · rename_i hc
          rw [if_pos (fr_ao hc)]
        · cases e2
      · rename_i ht
        (try rw [ht])
        (try dsimp only)
        rw [e1]
        show (if iv_oc (h ++ x) k ci = true then _ else none) = _
        rw [if_pos (by unfold iv_oc; rw [fr_g f1]; exact decide_eq_true rfl)]
  | instanceof idx =>
    obtain ⟨k, r, ci, fs, rfl, e1, f1, rfl⟩ := iv_ins_s e
    simp only [iv_op, iv_sem, iv_r]
    rw [e1]
    show (if iv_oc (h ++ x) k ci = true then _ else none) = _
    rw [if_pos (by unfold iv_oc; rw [fr_g f1]; exact decide_eq_true rfl)]
    rfl
  | invokestatic idx =>
    have e' : (if iv_cp (iv_kf mi) idx = true then iv_cpy z pc al st h else if iv_mm (iv_kf mi) idx = true then iv_min pc al st else if iv_ma (iv_kf mi) idx = true then iv_max pc al st else id_jc mi pc idx al st) = some o := e
    show (if iv_cp (iv_kf mi) idx = true then iv_cpy z pc al st (h ++ x) else if iv_mm (iv_kf mi) idx = true then iv_min pc al st else if iv_ma (iv_kf mi) idx = true then iv_max pc al st else id_jc mi pc idx al st) = some o
    by_cases hc : iv_cp (iv_kf mi) idx = true
    · rw [if_pos hc] at e' ⊢
      exact fr_cpy e'
    · rw [if_neg hc] at e' ⊢
      exact e'
  | ifCond cc off => cases cc <;> exact e
  | if_icmp cc off => cases cc <;> exact e
  | if_acmp cc off => cases cc <;> exact e
  | _ => exact e
theorem fr_ef {h h' x : iv_H} {f : iv_F} (hn : ∀ c, f ≠ some (none, c)) (e : iv_ef h f = some h') : iv_ef (h ++ x) f = some (h' ++ x) := by
  match f, hn, e with
  | none, _, e => cases e; rfl
  | some (none, c), hn, _ => exact absurd rfl (hn c)
  | some (some k, c), _, e =>
    have e' : (if (h[k]?).map iv_cz = some (iv_cz c) then some (h.set k c) else none) = some h' := e
    split at e'
    · rename_i hc
      cases e'
      cases hk : h[k]? with
      | none => rw [hk] at hc; cases hc
      | some c0 =>
        show (if ((h ++ x)[k]?).map iv_cz = some (iv_cz c) then some ((h ++ x).set k c) else none) = _
        rw [fr_g hk, if_pos (by rw [hk] at hc; exact hc), List.set_append_left _ _ (List.getElem?_eq_some_iff.mp hk).1]
    · cases e'
set_option maxRecDepth 1000000 in
theorem fr_oj_all : iv_tall 16 iv_ojT 0 (fun k => Option.isNone (iv_mt (k / 2048) (k % 2048))) = true := by decide +kernel
theorem fr_oj {f i : Nat} (h : iv_oi f i = true) : iv_mt f i = none := by
  obtain ⟨v, hv⟩ := Option.isSome_iff_exists.mp h
  obtain ⟨a1, a2⟩ := iv_oj_in hv
  exact Option.isNone_iff_eq_none.mp (iv_tls (c := fun f i => Option.isNone (iv_mt f i)) fr_oj_all a1 a2 (iv_t3 hv))
theorem fr_ca {z : iv_Z} {mi : Nat} {op : Jvm.ClassFile.Instr} {st : List Value} {h x : iv_H} {c : Nat × List Value × List Value} (e : iv_ca z mi op st h = some c) : iv_ca z mi op st (h ++ x) = some c := by
  unfold iv_ca at e ⊢
  split at e
  · cases e
  · rename_i q hq
    split at e
    · cases e
    · rename_i mj hmj
      (try rw [hmj])
      (try dsimp only)
      split at e
      · rename_i hc
        rw [if_pos hc]
        split at e
        · rename_i h2
          rw [if_pos h2]
          exact e
        · rename_i h2
          rw [if_neg h2]
          split at e
          · cases e
          · rename_i ci hci
            (try rw [hci])
            (try dsimp only)
            split at e
            · rename_i b rest hb
              (try rw [hb])
              (try dsimp only)
              split at e
              · rename_i h3
                rw [if_pos ⟨fr_oc h3.1, h3.2⟩]
                exact e
              · cases e
            · rename_i b rest hb
              (try rw [hb])
              exact e
            · cases e
      · cases e
/-- no call where there was none: the instruction is one that does something else -/
theorem fr_ca0 {z : iv_Z} {mi pc : Nat} {op : Jvm.ClassFile.Instr} {al : iv_L} {st : List Value} {h x : iv_H} {o : iv_O} (e : iv_ca z mi op st h = none) (e2 : iv_op z mi pc op al st h = some o) (hn : ∀ c, o.2.2.2 ≠ some (none, c)) : iv_ca z mi op st (h ++ x) = none := by
  cases op with
  | invokevirtual idx =>
    obtain ⟨k, r, t, n, f, rfl, e1, f1, hn9, h8, rfl⟩ := iv_cln_s e2
    exact absurd rfl (hn _)
  | invokespecial idx =>
    have g := fr_oj (iv_oi_s e2).1
    unfold iv_ca iv_cc
    dsimp only
    rw [g]
  | invokestatic idx =>
    unfold iv_ca iv_cc at e ⊢
    dsimp only at e ⊢
    split at e
    · rename_i hm
      first | rfl | (rw [hm])
    · rename_i mj hm
      (try rw [hm])
      exact e
  | _ => rfl
theorem fr_mu0 {mi : Nat} {op : Jvm.ClassFile.Instr} {st : List Value} {h x : iv_H} (e : iv_mu mi op st h = none) : iv_mu mi op st (h ++ x) = none := by
  cases hm : iv_mu mi op st (h ++ x) with
  | none => rfl
  | some c =>
    obtain ⟨idx, k, n, r, rfl, h1, rfl, h2, h3, h4, h5, -⟩ := iv_mu_s hm
    have e : (if (iv_mn (iv_kf mi) idx).isSome = true then (if 0 ≤ n ∧ 0 ≤ k ∧ n.toNatClampNeg ≤ 1000 ∧ k.toNatClampNeg ≤ 1000 then some ((Value.ref h.length :: r, iv_muh h n.toNatClampNeg k.toNatClampNeg) : List Value × iv_H) else none) else none) = none := e
    rw [if_pos h1, if_pos ⟨h2, h3, h4, h5⟩] at e
    cases e
theorem fr_al {h h' : iv_H} {f : iv_F} (e : iv_ef h f = some h') (hl : h'.length ≤ h.length) : ∀ c, f ≠ some (none, c) := by
  rintro c rfl
  cases e
  rw [List.length_append] at hl
  have h1 : List.length [c] = 1 := rfl
  omega
theorem fr_run : ∀ (n : Nat) (z : iv_Z) (d mi : Nat) (S : iv_S) (r : Option Value × iv_H) (x : iv_H), iv_run z n d mi S = some r → r.2.length = S.2.2.2.length → iv_run z n d mi (S.1, S.2.1, S.2.2.1, S.2.2.2 ++ x) = some (r.1, r.2 ++ x) := by
  intro n
  induction n with
  | zero => intro z d mi S r x h; cases h
  | succ n ih =>
    intro z d mi S r x h hl
    unfold iv_run at h ⊢
    dsimp only
    split at h
    · cases h
    · rename_i op hcd
      (try rw [hcd])
      (try dsimp only)
      split at h
      · rename_i hret
        obtain ⟨v, hv, rfl⟩ := Option.map_eq_some_iff.mp h
        rw [if_pos hret, hv]
        rfl
      · rename_i hret
        rw [if_neg hret]
        split at h
        · rename_i c0 hca
          rw [fr_ca hca]
          dsimp only
          split at h
          · cases h
          · split at h
            · cases h
            · rename_i q hq
              have la := (iv_run_le _ _ _ _ _ _ hq).1
              have lb : q.2.length ≤ r.2.length := (iv_run_le _ _ _ _ _ _ h).1
              dsimp only at la
              rw [ih _ _ _ _ _ x hq (by dsimp only; omega)]
              exact ih _ _ _ _ _ x h (by dsimp only; omega)
        · rename_i hca
          split at h
          · rename_i c0 hmu
            have lb : c0.2.length ≤ r.2.length := (iv_run_le _ _ _ _ _ _ h).1
            obtain ⟨_, _, _, _, -, -, -, -, -, -, -, rfl⟩ := iv_mu_s hmu
            dsimp only at lb
            rw [iv_muh_len] at lb
            omega
          · rename_i hmu
            split at h
            · cases h
            · rename_i o hop
              split at h
              · cases h
              · rename_i h' hef
                have la := (iv_ef_le hef).1
                have lb : h'.length ≤ r.2.length := (iv_run_le _ _ _ _ _ _ h).1
                have hn := fr_al hef (by omega)
                rw [fr_ca0 hca hop hn, fr_mu0 hmu]
                dsimp only
                rw [fr_op hop hn]
                dsimp only
                rw [fr_ef hn hef]
                exact ih _ _ _ _ _ x h (by dsimp only; omega)
