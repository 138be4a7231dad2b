/-! STEPS OF A RUN BY HAND; a loop that is told once: remembers() of the reference -/
theorem iv_run_mono : ∀ (n : Nat) (z : iv_Z) (d mi : Nat) (S : iv_S) (r : Option Value × iv_H), iv_run z n d mi S = some r → iv_run z (n + 1) d mi S = some r := by
  intro n
  induction n with
  | zero => intro z d mi S r h; cases h
  | succ n ih =>
    intro z d mi S r h
    unfold iv_run at h ⊢
    cases hcd : iv_cd mi S.1 with
    | none => rw [hcd] at h; cases h
    | some op =>
      rw [hcd] at h
      dsimp only at h ⊢
      by_cases hr : iv_isr op = true
      · rw [if_pos hr] at h ⊢
        exact h
      · rw [if_neg hr] at h ⊢
        cases hca : iv_ca mi op S.2.2.1 S.2.2.2 with
        | some c =>
          rw [hca] at h
          dsimp only at h ⊢
          cases d with
          | zero => cases h
          | succ d' =>
            dsimp only at h ⊢
            cases hq : iv_run none n d' c.1 (0, iv_en c.1 c.2.1, [], S.2.2.2) with
            | none => rw [hq] at h; cases h
            | some q =>
              rw [hq] at h
              rw [ih _ _ _ _ _ hq]
              exact ih _ _ _ _ _ h
        | none =>
          rw [hca] at h
          dsimp only at h ⊢
          cases ho : iv_op z mi S.1 op S.2.1 S.2.2.1 S.2.2.2 with
          | none => rw [ho] at h; cases h
          | some o =>
            rw [ho] at h
            dsimp only at h ⊢
            cases he : iv_ef S.2.2.2 o.2.2.2 with
            | none => rw [he] at h; cases h
            | some h' =>
              rw [he] at h
              exact ih _ _ _ _ _ h
theorem iv_run_up {n m : Nat} {z : iv_Z} {d mi : Nat} {S : iv_S} {r : Option Value × iv_H} (h : iv_run z n d mi S = some r) (hm : n ≤ m) : iv_run z m d mi S = some r := by
  obtain ⟨k, rfl⟩ : ∃ k, m = n + k := ⟨m - n, by omega⟩
  clear hm
  induction k with
  | zero => exact h
  | succ k ih => exact iv_run_mono _ _ _ _ _ _ ih
theorem iv_rs {z : iv_Z} {n d mi pc : Nat} {al : iv_L} {st : List Value} {h h' : iv_H} {op : Jvm.ClassFile.Instr} {o : iv_O} {r : Option Value × iv_H} (hcd : iv_cd mi pc = some op) (hr : iv_isr op = false) (hca : iv_ca mi op st h = none) (hop : iv_op z mi pc op al st h = some o) (hef : iv_ef h o.2.2.2 = some h') (k : iv_run z n d mi (o.1, o.2.1, o.2.2.1, h') = some r) : iv_run z (n + 1) d mi (pc, al, st, h) = some r := by
  unfold iv_run
  dsimp only
  rw [hcd]
  dsimp only
  rw [if_neg (by rw [hr]; decide), hca]
  dsimp only
  rw [hop]
  dsimp only
  rw [hef]
  exact k
theorem iv_gf_o {z : iv_Z} {mi pc idx k : Nat} {al : iv_L} {st : List Value} {h : iv_H} {v : Value} (e : iv_gf mi idx h k = some v) : iv_op z mi pc (.getfield idx) al (.ref k :: st) h = some (pc + 3, al, v :: st, none) := by
  show (iv_gf mi idx h k).bind _ = _
  rw [e]
  rfl
theorem iv_gf_at {mi idx k ci j : Nat} {h : iv_H} {fs : List Value} (h1 : iv_fd (iv_kf mi) idx = some (ci, j)) (h2 : h[k]? = some (.inl (ci, fs))) : iv_gf mi idx h k = fs[j]? := by
  unfold iv_gf
  rw [h1, h2]
  dsimp only
  rw [if_pos rfl]
theorem iv_set_self {α : Type} {l : List α} {i : Nat} {a : α} (h : l[i]? = some a) : l.set i a = l := by
  apply List.ext_getElem?
  intro j
  rw [List.getElem?_set]
  split
  · rename_i e
    subst e
    rw [if_pos (List.getElem?_eq_some_iff.mp h).1, h]
  · rfl
theorem iv_rem_f0 : iv_fd (iv_kf 132) 13 = some (10, 1) ∧ iv_fd (iv_kf 132) 103 = some (10, 2) ∧ iv_fd (iv_kf 132) 9 = some (10, 0) ∧ iv_ft 10 2 = .int ∧ iv_fi 10 2 = false ∧ iv_mx 132 = 2 ∧ iv_ty[0]? = some .int := by decide +kernel
set_option maxRecDepth 100000 in
theorem iv_rem_cd : iv_cd 132 0 = some (.aload_n 0) ∧ iv_cd 132 1 = some (.getfield 103) ∧ iv_cd 132 4 = some (.bipush 8) ∧ iv_cd 132 6 = some (.if_icmp .ne 46) ∧ iv_cd 132 52 = some (.iconst 0) ∧ iv_cd 132 53 = some (.istore_n 1) ∧ iv_cd 132 54 = some (.iload_n 1) ∧ iv_cd 132 55 = some (.sipush 340) ∧ iv_cd 132 58 = some (.if_icmp .ge 30) ∧ iv_cd 132 61 = some (.aload_n 0) ∧ iv_cd 132 62 = some (.getfield 13) ∧ iv_cd 132 65 = some (.sipush 340) ∧ iv_cd 132 68 = some (.aload_n 0) ∧ iv_cd 132 69 = some (.getfield 103) ∧ iv_cd 132 72 = some .imul ∧ iv_cd 132 73 = some (.iload_n 1) ∧ iv_cd 132 74 = some .iadd ∧ iv_cd 132 75 = some (.aload_n 0) ∧ iv_cd 132 76 = some (.getfield 9) ∧ iv_cd 132 79 = some (.iload_n 1) ∧ iv_cd 132 80 = some .iaload ∧ iv_cd 132 81 = some .iastore ∧ iv_cd 132 82 = some (.iinc 1 1) ∧ iv_cd 132 85 = some (.goto (-31)) ∧ iv_cd 132 88 = some (.aload_n 0) ∧ iv_cd 132 89 = some .dup ∧ iv_cd 132 90 = some (.getfield 103) ∧ iv_cd 132 93 = some (.iconst 1) ∧ iv_cd 132 94 = some .iadd ∧ iv_cd 132 95 = some (.putfield 103) ∧ iv_cd 132 98 = some .return_ := by decide +kernel
theorem iv_icg (mi pc t : Nat) (z : iv_Z) (off : Int) (al : iv_L) (st : List Value) (h : iv_H) (x y : Int32) (ht : iv_tg pc off = some t) : iv_op z mi pc (.if_icmp .ge off) al (.int y :: .int x :: st) h = some (if y ≤ x then (t, al, st, none) else (pc + 3, al, st, none)) := by
  show iv_br (decide (y ≤ x)) pc off al st = _
  unfold iv_br
  rw [ht]
  by_cases q : y ≤ x
  · rw [if_pos q, decide_eq_true q]; rfl
  · rw [if_neg q, decide_eq_false q]; rfl
theorem iv_rem_end {z : iv_Z} {d k : Nat} {x : Int32} {h : iv_H} {fs : List Value} (hk : h[k]? = some (.inl (10, fs))) (h2 : fs[2]? = some (.int 0)) : iv_run z 8 d 132 (88, [some (.ref k), some (.int x)], [], h) = some (none, h.set k (.inl (10, fs.set 2 (.int 1)))) := by
  obtain ⟨f1, f2, f3, f4, f5, f6, -⟩ := iv_rem_f0
  obtain ⟨-, -, -, -, -, -, -, -, -, -, -, -, -, -, -, -, -, -, -, -, -, -, -, -, c88, c89, c90, c93, c94, c95, c98⟩ := iv_rem_cd
  have hl : 2 < fs.length := (List.getElem?_eq_some_iff.mp h2).1
  have g1 : iv_gf 132 103 h k = some (.int 0) := (iv_gf_at f2 hk).trans h2
  have p1 : iv_pf 132 103 h k (.int 1) = some (some k, .inl (10, fs.set 2 (.int 1))) := by
    unfold iv_pf
    rw [f2, hk]
    dsimp only
    rw [if_pos ⟨rfl, hl, by rw [f4]; rfl, Or.inl f5⟩]
  have e1 : iv_ef h (some (some k, .inl (10, fs.set 2 (.int 1)))) = some (h.set k (.inl (10, fs.set 2 (.int 1)))) := by
    unfold iv_ef
    dsimp only
    rw [hk]
    rw [if_pos (by show some fs.length = some (fs.set 2 (.int 1)).length; rw [List.length_set])]
  refine iv_rs c88 rfl rfl rfl rfl ?_
  refine iv_rs c89 rfl rfl rfl rfl ?_
  refine iv_rs c90 rfl rfl (iv_gf_o g1) rfl ?_
  refine iv_rs c93 rfl rfl rfl rfl ?_
  refine iv_rs c94 rfl rfl rfl rfl ?_
  refine iv_rs (o := (98, [some (.ref k), some (.int x)], [], some (some k, .inl (10, fs.set 2 (.int 1))))) c95 rfl rfl (by
    show (iv_pf 132 103 h k (.int 1)).bind _ = _
    rw [p1]
    rfl) e1 ?_
  unfold iv_run
  dsimp only
  rw [c98]
  dsimp only
  rw [if_pos (show iv_isr .return_ = true from rfl)]
  rfl
set_option maxHeartbeats 1000000 in
theorem iv_rem_loop {z : iv_Z} {d k a b ta tb : Nat} {fs : List Value} {f : Nat → Int32} (h0 : fs[0]? = some (.ref a)) (h1 : fs[1]? = some (.ref b)) (h2 : fs[2]? = some (.int 0)) (ha0 : iv_ty[ta]? = some .int) (hb0 : iv_ty[tb]? = some .int) : ∀ (m j : Nat) (g : Nat → Int32) (h : iv_H), j + m = 340 → h[k]? = some (.inl (10, fs)) → h[a]? = some (.inr (ta, 340, .inl f)) → h[b]? = some (.inr (tb, 2720, .inl g)) →
    ∃ g', iv_run z (18 * m + 11) d 132 (54, [some (.ref k), some (.int (nI j))], [], h) = some (none, (h.set b (.inr (tb, 2720, .inl g'))).set k (.inl (10, fs.set 2 (.int 1)))) := by
  obtain ⟨f1, f2, f3, f4, f5, f6, -⟩ := iv_rem_f0
  obtain ⟨-, -, -, -, -, -, c54, c55, c58, c61, c62, c65, c68, c69, c72, c73, c74, c75, c76, c79, c80, c81, c82, c85, -⟩ := iv_rem_cd
  intro m
  induction m with
  | zero =>
    intro j g h hj hk ha hb
    refine ⟨g, ?_⟩
    rw [iv_set_self hb]
    have hj' : j = 340 := by omega
    subst hj'
    refine iv_rs c54 rfl rfl rfl rfl ?_
    refine iv_rs c55 rfl rfl rfl rfl ?_
    refine iv_rs (o := (88, [some (.ref k), some (.int (nI 340))], [], none)) c58 rfl rfl (by rfl) rfl ?_
    exact iv_rem_end hk h2
  | succ m ih =>
    intro j g h hj hk ha hb
    have hjl : j < 340 := by omega
    have nj : (nI j).toNatClampNeg = j := nI_clamp (by omega)
    have ge1 : ¬ (340 : Int32) ≤ nI j := by
      have q := nI_ge (a := j) (b := 340) hjl (by omega)
      exact q
    have ij : iv_in (nI j) 340 = true := by
      unfold iv_in
      rw [nj, decide_eq_true (nI_pos' (n := j) (by omega)), decide_eq_true hjl]
      rfl
    have ix : (340 : Int32) * 0 + nI j = nI j := by
      show (0 : Int32) + nI j = nI j
      rw [Int32.zero_add]
    have ij2 : iv_in (nI j) 2720 = true := by
      unfold iv_in
      rw [nj, decide_eq_true (nI_pos' (n := j) (by omega)), decide_eq_true (show j < 2720 by omega)]
      rfl
    have g1 : iv_gf 132 103 h k = some (.int 0) := (iv_gf_at f2 hk).trans h2
    have g2 : iv_gf 132 13 h k = some (.ref b) := (iv_gf_at f1 hk).trans h1
    have g3 : iv_gf 132 9 h k = some (.ref a) := (iv_gf_at f3 hk).trans h0
    have hkb : ¬ b = k := fun q => by rw [q, hk] at hb; cases hb
    have hab : ¬ b = a := fun q => by rw [q, ha] at hb; cases hb
    obtain ⟨g', hg⟩ := ih (j + 1) (upd g j (f j)) (h.set b (.inr (tb, 2720, .inl (upd g j (f j))))) (by omega) (by rw [List.getElem?_set_ne hkb]; exact hk) (by rw [List.getElem?_set_ne hab]; exact ha) (by rw [List.getElem?_set_self (List.getElem?_eq_some_iff.mp hb).1])
    rw [List.set_set] at hg
    refine ⟨g', ?_⟩
    rw [show 18 * (m + 1) + 11 = 18 * m + 11 + 18 by omega]
    refine iv_rs c54 rfl rfl rfl rfl ?_
    refine iv_rs c55 rfl rfl rfl rfl ?_
    refine iv_rs (o := (61, [some (.ref k), some (.int (nI j))], [], none)) c58 rfl rfl (by
      rw [iv_icg 132 58 88 z 30 _ _ _ _ _ rfl]
      rw [if_neg (show ¬ (Int16.ofInt 340).toInt32 ≤ nI j from ge1)]) rfl ?_
    refine iv_rs c61 rfl rfl rfl rfl ?_
    refine iv_rs c62 rfl rfl (iv_gf_o g2) rfl ?_
    refine iv_rs c65 rfl rfl rfl rfl ?_
    refine iv_rs c68 rfl rfl rfl rfl ?_
    refine iv_rs c69 rfl rfl (iv_gf_o g1) rfl ?_
    refine iv_rs c72 rfl rfl rfl rfl ?_
    refine iv_rs c73 rfl rfl rfl rfl ?_
    refine iv_rs (o := (75, [some (.ref k), some (.int (nI j))], [.int (nI j), .ref b], none)) c74 rfl rfl (by
      show some (75, _, [Value.int ((340 : Int32) * 0 + nI j), .ref b], none) = _
      rw [ix]) rfl ?_
    refine iv_rs c75 rfl rfl rfl rfl ?_
    refine iv_rs c76 rfl rfl (iv_gf_o g3) rfl ?_
    refine iv_rs c79 rfl rfl rfl rfl ?_
    refine iv_rs (o := (81, [some (.ref k), some (.int (nI j))], [.int (f j), .int (nI j), .ref b], none)) c80 rfl rfl (by
      show iv_ald .int 80 _ (.int (nI j) :: .ref a :: _) h = _
      show (iv_ai h a).bind _ = _
      have q1 : iv_ai h a = some (ta, 340, f) := by unfold iv_ai; rw [ha]
      rw [q1]
      show (if _ then _ else _) = _
      rw [if_pos ⟨ij, decide_eq_true ha0⟩]
      show some (81, _, Value.int (f (nI j).toNatClampNeg) :: _, none) = _
      rw [nj]) rfl ?_
    refine iv_rs (o := (82, [some (.ref k), some (.int (nI j))], [], some (some b, .inr (tb, 2720, .inl (upd g j (f j)))))) c81 rfl rfl (by
      show (iv_ai h b).bind _ = _
      have q1 : iv_ai h b = some (tb, 2720, g) := by unfold iv_ai; rw [hb]
      rw [q1]
      show (if _ then _ else _) = _
      rw [if_pos ⟨ij2, decide_eq_true hb0⟩]
      show some (82, _, _, some (some b, Sum.inr (tb, 2720, Sum.inl (upd g (nI j).toNatClampNeg (f j))))) = _
      rw [nj]) (by
      unfold iv_ef
      dsimp only
      rw [hb]
      exact if_pos rfl) ?_
    refine iv_rs (o := (85, [some (.ref k), some (.int (nI (j + 1)))], [], none)) c82 rfl rfl (by
      show iv_sl 132 1 0 (85, [some (.ref k), some (.int (nI j + 1))], [], none) = _
      unfold iv_sl
      rw [f6, if_pos (by omega), nI_1]) rfl ?_
    refine iv_rs c85 rfl rfl rfl rfl ?_
    exact hg
theorem iv_rem {z : iv_Z} {d k a b ta tb : Nat} {h : iv_H} {fs : List Value} {f g : Nat → Int32} (hk : h[k]? = some (.inl (10, fs))) (h0 : fs[0]? = some (.ref a)) (h1 : fs[1]? = some (.ref b)) (h2 : fs[2]? = some (.int 0)) (ha : h[a]? = some (.inr (ta, 340, .inl f))) (hb : h[b]? = some (.inr (tb, 2720, .inl g))) (ha0 : iv_ty[ta]? = some .int) (hb0 : iv_ty[tb]? = some .int) :
    ∃ g', iv_run z 6137 d 132 (0, iv_en 132 [.ref k], [], h) = some (none, (h.set b (.inr (tb, 2720, .inl g'))).set k (.inl (10, fs.set 2 (.int 1)))) := by
  obtain ⟨f1, f2, f3, f4, f5, f6, -⟩ := iv_rem_f0
  obtain ⟨c0, c1, c4, c6, c52, c53, -⟩ := iv_rem_cd
  obtain ⟨g', hg⟩ := iv_rem_loop (z := z) (d := d) h0 h1 h2 ha0 hb0 340 0 g h rfl hk ha hb
  refine ⟨g', ?_⟩
  have en : iv_en 132 [.ref k] = [some (.ref k), none] := by
    unfold iv_en
    rw [f6]
    rfl
  rw [en]
  have g1 : iv_gf 132 103 h k = some (.int 0) := (iv_gf_at f2 hk).trans h2
  rw [show 6137 = 18 * 340 + 11 + 6 by rfl]
  refine iv_rs c0 rfl rfl rfl rfl ?_
  refine iv_rs c1 rfl rfl (iv_gf_o g1) rfl ?_
  refine iv_rs c4 rfl rfl rfl rfl ?_
  refine iv_rs c6 rfl rfl (o := (52, [some (.ref k), none], [], none)) (by rfl) rfl ?_
  refine iv_rs c52 rfl rfl rfl rfl ?_
  refine iv_rs (o := (54, [some (.ref k), some (.int 0)], [], none)) c53 rfl rfl (by
    show iv_sl 132 1 0 (54, [some (.ref k), some (.int 0)], [], none) = _
    unfold iv_sl
    rw [f6, if_pos (by omega)]) rfl ?_
  exact hg
