/-! A RUN THAT NEEDS NO READ-ONLY THING is the same run beside any -/
def zm_0 : iv_Z := fun _ => none
theorem zm_no {α : Type} {o : α} {P : Prop} (e : (none : Option α) = some o) : P := by cases e
theorem zm_zf {mi idx k : Nat} : iv_zf zm_0 mi idx k = none := by
  unfold iv_zf
  split <;> rfl
set_option maxHeartbeats 2000000 in
theorem zm_op {z : iv_Z} {mi pc : Nat} {op : Jvm.ClassFile.Instr} {al : iv_L} {st : List Value} {h : iv_H} {o : iv_O} (e : iv_op zm_0 mi pc op al st h = some o) : iv_op z mi pc op al st h = some o := by
  cases op with
  | ldc idx =>
    rcases iv_ldc_s e with ⟨x, h1, rfl⟩ | ⟨k, h1, h2, rfl⟩
    · simp only [iv_op, iv_sem]
      rw [h1]
      rfl
    · cases h2
  | ifnull off =>
    cases st with
    | nil => exact e
    | cons w r =>
      cases w with
      | retAddr k => exact zm_no (show (none : Option iv_O) = some o from e)
      | _ => exact e
  | ifnonnull off =>
    cases st with
    | nil => exact e
    | cons w r =>
      cases w with
      | retAddr k => exact zm_no (show (none : Option iv_O) = some o from e)
      | _ => exact e
  | getfield idx =>
    rcases iv_gfd_s e with ⟨k, r, v, rfl, e1, rfl⟩ | ⟨k, r, v, rfl, e1, rfl⟩
    · rw [zm_zf] at e1
      cases e1
    · exact e
  | arraylength =>
    cases st with
    | nil => exact e
    | cons w r =>
      cases w with
      | retAddr k => exact zm_no (show (none : Option iv_O) = some o from e)
      | _ => exact e
  | iaload =>
    cases st with
    | nil => exact e
    | cons w r1 =>
      cases w with
      | int i =>
        cases r1 with
        | nil => exact e
        | cons w2 r =>
          cases w2 with
          | retAddr k => exact zm_no (show (none : Option iv_O) = some o from e)
          | _ => exact e
      | _ => exact e
  | baload =>
    cases st with
    | nil => exact e
    | cons w r1 =>
      cases w with
      | int i =>
        cases r1 with
        | nil => exact e
        | cons w2 r =>
          cases w2 with
          | retAddr k => exact zm_no (show (none : Option iv_O) = some o from e)
          | _ => exact e
      | _ => exact e
  | invokestatic idx =>
    have e' : (if iv_cp (iv_kf mi) idx = true then iv_cpy zm_0 pc al st h else if iv_mm (iv_kf mi) idx = true then iv_min pc al st else if iv_ma (iv_kf mi) idx = true then iv_max pc al st else id_jc mi pc idx al st) = some o := e
    show (if iv_cp (iv_kf mi) idx = true then iv_cpy z pc al st h else if iv_mm (iv_kf mi) idx = true then iv_min pc al st else if iv_ma (iv_kf mi) idx = true then iv_max pc al st else id_jc mi pc idx al st) = some o
    by_cases hc : iv_cp (iv_kf mi) idx = true
    · rw [if_pos hc] at e' ⊢
      unfold iv_cpy at e'
      obtain ⟨n, r4, rfl, e_1⟩ := iv_i_s e'
      obtain ⟨dp, r3, rfl, e_2⟩ := iv_i_s e_1
      obtain ⟨b, r2, rfl, e_3⟩ := iv_r_s e_2
      obtain ⟨sp, r1, rfl, e_4⟩ := iv_i_s e_3
      cases r1 with
      | nil => exact e_4
      | cons w r =>
        cases w with
        | retAddr k => exact zm_no (show (none : Option iv_O) = some o from e_4)
        | _ => exact e_4
    · rw [if_neg hc] at e' ⊢
      exact e'
  | ifCond cc off => cases cc <;> exact e
  | if_icmp cc off => cases cc <;> exact e
  | if_acmp cc off => cases cc <;> exact e
  | _ => exact e
theorem zm_ca {z : iv_Z} {mi : Nat} {op : Jvm.ClassFile.Instr} {st : List Value} {h : iv_H} {c : Nat × List Value × List Value} (e : iv_ca zm_0 mi op st h = some c) : iv_ca z mi op st h = some c := by
  unfold iv_ca at e ⊢
  split at e
  · cases e
  · rename_i q hq
    split at e
    · cases e
    · rename_i mj hmj
      (try rw [hmj])
      (try dsimp only)
      split at e
      · rename_i hc
        rw [if_pos hc]
        split at e
        · rename_i h2
          rw [if_pos h2]
          exact e
        · rename_i h2
          rw [if_neg h2]
          split at e
          · cases e
          · rename_i ci hci
            (try rw [hci])
            (try dsimp only)
            split at e
            · rename_i b rest hb
              (try rw [hb])
              exact e
            · rename_i b rest hb
              split at e
              · rename_i h3
                exact absurd (show false = true from h3.1) (by decide)
              · cases e
            · cases e
      · cases e
set_option maxRecDepth 1000000 in
theorem zm_cv_all : iv_tall 16 iv_cvT 0 (fun k => Option.isNone (iv_mt (k / 2048) (k % 2048))) = true := by decide +kernel
theorem zm_cv {f i t : Nat} (h : iv_cv f i = some t) : iv_mt f i = none := by
  obtain ⟨a1, a2⟩ := iv_cv_in h
  exact Option.isNone_iff_eq_none.mp (iv_tls (c := fun f i => Option.isNone (iv_mt f i)) zm_cv_all a1 a2 (iv_t3 h))
theorem zm_ca0 {z : iv_Z} {mi pc : Nat} {op : Jvm.ClassFile.Instr} {al : iv_L} {st : List Value} {h : iv_H} {o : iv_O} (e : iv_ca zm_0 mi op st h = none) (e2 : iv_op zm_0 mi pc op al st h = some o) : iv_ca z mi op st h = none := by
  cases op with
  | invokevirtual idx =>
    obtain ⟨k, r, t, n, f, rfl, e1, f1, hn9, h8, rfl⟩ := iv_cln_s e2
    have g := zm_cv e1
    unfold iv_ca iv_cc
    dsimp only
    rw [g]
  | invokespecial idx =>
    have g := fr_oj (iv_oi_s e2).1
    unfold iv_ca iv_cc
    dsimp only
    rw [g]
  | invokestatic idx =>
    unfold iv_ca iv_cc at e ⊢
    dsimp only at e ⊢
    split at e
    · rename_i hm
      first | rfl | (rw [hm])
    · rename_i mj hm
      (try rw [hm])
      exact e
  | _ => rfl
theorem zm_run : ∀ (n : Nat) (z : iv_Z) (d mi : Nat) (S : iv_S) (r : Option Value × iv_H), iv_run zm_0 n d mi S = some r → iv_run z n d mi S = some r := by
  intro n
  induction n with
  | zero => intro z d mi S r h; cases h
  | succ n ih =>
    intro z d mi S r h
    unfold iv_run at h ⊢
    split at h
    · cases h
    · rename_i op hcd
      (try rw [hcd])
      (try dsimp only)
      split at h
      · rename_i hret
        rw [if_pos hret]
        exact h
      · rename_i hret
        rw [if_neg hret]
        split at h
        · rename_i c0 hca
          rw [zm_ca hca]
          dsimp only
          split at h
          · cases h
          · split at h
            · cases h
            · rename_i q hq
              rw [ih z _ _ _ _ hq]
              exact ih z _ _ _ _ h
        · rename_i hca
          split at h
          · rename_i c0 hmu
            cases hc2 : iv_ca z mi op S.2.2.1 S.2.2.2 with
            | some c1 =>
              obtain ⟨idx, k, m, r', rfl, h1, -⟩ := iv_mu_s hmu
              cases hc2
            | none =>
              dsimp only
              (try rw [hmu])
              exact ih z _ _ _ _ h
          · rename_i hmu
            split at h
            · cases h
            · rename_i o hop
              split at h
              · cases h
              · rename_i h' hef
                rw [zm_ca0 hca hop]
                dsimp only
                (try rw [hmu])
                (try dsimp only)
                rw [zm_op hop]
                dsimp only
                rw [hef]
                exact ih z _ _ _ _ h
