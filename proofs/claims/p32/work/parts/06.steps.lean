theorem iv_run_mono : ∀ (n : Nat) (z : iv_Z) (d mi : Nat) (S : iv_S) (r : Option Value × iv_H), iv_run z n d mi S = some r → iv_run z (n + 1) d mi S = some r := by
  intro n
  induction n with
  | zero => intro z d mi S r h; cases h
  | succ n ih =>
    intro z d mi S r h
    unfold iv_run at h ⊢
    cases hcd : iv_cd mi S.1 with
    | none => rw [hcd] at h; cases h
    | some op =>
      rw [hcd] at h
      dsimp only at h ⊢
      by_cases hr : iv_isr op = true
      · rw [if_pos hr] at h ⊢
        exact h
      · rw [if_neg hr] at h ⊢
        cases hca : iv_ca z mi op S.2.2.1 S.2.2.2 with
        | some c =>
          rw [hca] at h
          dsimp only at h ⊢
          cases d with
          | zero => cases h
          | succ d' =>
            dsimp only at h ⊢
            cases hq : iv_run z n d' c.1 (0, iv_en c.1 c.2.1, [], S.2.2.2) with
            | none => rw [hq] at h; cases h
            | some q =>
              rw [hq] at h
              rw [ih _ _ _ _ _ hq]
              exact ih _ _ _ _ _ h
        | none =>
          rw [hca] at h
          dsimp only at h ⊢
          cases hmu : iv_mu mi op S.2.2.1 S.2.2.2 with
          | some c =>
            rw [hmu] at h
            exact ih _ _ _ _ _ h
          | none =>
            rw [hmu] at h
            dsimp only at h ⊢
            cases ho : iv_op z mi S.1 op S.2.1 S.2.2.1 S.2.2.2 with
            | none => rw [ho] at h; cases h
            | some o =>
              rw [ho] at h
              dsimp only at h ⊢
              cases he : iv_ef S.2.2.2 o.2.2.2 with
              | none => rw [he] at h; cases h
              | some h' =>
                rw [he] at h
                exact ih _ _ _ _ _ h
theorem iv_run_up {n m : Nat} {z : iv_Z} {d mi : Nat} {S : iv_S} {r : Option Value × iv_H} (h : iv_run z n d mi S = some r) (hm : n ≤ m) : iv_run z m d mi S = some r := by
  obtain ⟨k, rfl⟩ : ∃ k, m = n + k := ⟨m - n, by omega⟩
  clear hm
  induction k with
  | zero => exact h
  | succ k ih => exact iv_run_mono _ _ _ _ _ _ ih
theorem iv_mu_no {mi : Nat} {op : Jvm.ClassFile.Instr} {st : List Value} {h : iv_H} {f : iv_Z → Nat → Nat → iv_L → List Value → iv_H → Option iv_O} (e : iv_sem op = some f) : iv_mu mi op st h = none := by
  cases op <;> first | rfl | cases e
theorem iv_rs {z : iv_Z} {n d mi pc : Nat} {al : iv_L} {st : List Value} {h h' : iv_H} {op : Jvm.ClassFile.Instr} {o : iv_O} {r : Option Value × iv_H} (hcd : iv_cd mi pc = some op) (hr : iv_isr op = false) (hca : iv_ca z mi op st h = none) (hop : iv_op z mi pc op al st h = some o) (hef : iv_ef h o.2.2.2 = some h') (k : iv_run z n d mi (o.1, o.2.1, o.2.2.1, h') = some r) : iv_run z (n + 1) d mi (pc, al, st, h) = some r := by
  have hmu : iv_mu mi op st h = none := by
    unfold iv_op at hop
    split at hop
    · exact iv_mu_no (by assumption)
    · cases hop
  unfold iv_run
  dsimp only
  rw [hcd]
  dsimp only
  rw [if_neg (by rw [hr]; decide), hca]
  dsimp only
  rw [hmu]
  dsimp only
  rw [hop]
  dsimp only
  rw [hef]
  exact k
theorem iv_gf_o {z : iv_Z} {mi pc idx k : Nat} {al : iv_L} {st : List Value} {h : iv_H} {v : Value} (e : iv_gf mi idx h k = some v) : iv_op z mi pc (.getfield idx) al (.ref k :: st) h = some (pc + 3, al, v :: st, none) := by
  show (iv_gf mi idx h k).bind _ = _
  rw [e]
  rfl
theorem iv_gf_at {mi idx k ci j : Nat} {h : iv_H} {fs : List Value} (h1 : iv_fd (iv_kf mi) idx = some (ci, j)) (h2 : h[k]? = some (.inl (ci, fs))) : iv_gf mi idx h k = fs[j]? := by
  unfold iv_gf
  rw [h1, h2]
  dsimp only
  rw [if_pos rfl]
theorem iv_set_self {α : Type} {l : List α} {i : Nat} {a : α} (h : l[i]? = some a) : l.set i a = l := by
  apply List.ext_getElem?
  intro j
  rw [List.getElem?_set]
  split
  · rename_i e
    subst e
    rw [if_pos (List.getElem?_eq_some_iff.mp h).1, h]
  · rfl
