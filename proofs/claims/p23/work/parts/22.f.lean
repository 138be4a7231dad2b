/-! THE WORDS of double constants and of the JDK's methods over doubles and floats -/
theorem id_lc_in {f i : Nat} {q : _} (h : id_lc f i = some q) : f < 16 ∧ i < 512 := by
  unfold id_lc at h
  have h1 := iv_bif h
  exact ⟨iv_blt (iv_bif h1.2).1, iv_blt h1.1⟩
theorem id_dj_in {f i : Nat} {q : _} (h : id_dj f i = some q) : f < 16 ∧ i < 512 := by
  unfold id_dj at h
  have h1 := iv_bif h
  exact ⟨iv_blt (iv_bif h1.2).1, iv_blt h1.1⟩
def id_ckL (f i : Nat) : Bool := match id_lc f i with
  | none => true
  | some v => iv_wo (id_lcp f i) (.constantDouble (iv_cn f) i v)
set_option maxRecDepth 1000000 in
theorem id_ckL_all_lc : iv_tall 14 id_lcT 0 (fun k => id_ckL (k / 1024) (k % 1024)) = true := by decide +kernel
theorem id_fL {f i : Nat} {v : UInt64} (h : id_lc f i = some v) : Cond.constantDouble (iv_cn f) i v ∈ iv_Wd := by
  obtain ⟨a1, a2⟩ := id_lc_in h
  have a := iv_tls id_ckL_all_lc a1 a2 (iv_t3 h)
  unfold id_ckL at a
  rw [h] at a
  exact iv_wo_s a
def id_jy (k : Nat) : MethodName := match k with
  | 1 => vd_dN
  | 2 => vd_fN
  | 3 => Jvm.Free.NT.mathAbs64N
  | _ => Jvm.Free.Hsc.MFloorA.yN
def id_ckJ (f i : Nat) : Bool := match id_dj f i with
  | none => true
  | some k => iv_wo (id_djp f i) (.methodLink (iv_cn f) i (id_jy k))
set_option maxRecDepth 1000000 in
theorem id_ckJ_all_dj : iv_tall 14 id_djT 0 (fun k => id_ckJ (k / 1024) (k % 1024)) = true := by decide +kernel
theorem id_fJ {f i k : Nat} (h : id_dj f i = some k) : Cond.methodLink (iv_cn f) i (id_jy k) ∈ iv_Wd := by
  obtain ⟨a1, a2⟩ := id_dj_in h
  have a := iv_tls id_ckJ_all_dj a1 a2 (iv_t3 h)
  unfold id_ckJ at a
  rw [h] at a
  exact iv_wo_s a
def id_fl : Nat → Cond → List Cond
  | n + 1, .and a b => id_fl n a ++ id_fl n b
  | _, c => [c]
theorem id_fl_s {args : Array Value} {s : State} : ∀ (n : Nat) (c : Cond), (∀ w ∈ id_fl n c, w.before args s = true) → c.before args s = true := by
  intro n
  induction n with
  | zero => intro c h; exact h c (by unfold id_fl; exact List.mem_singleton.mpr rfl)
  | succ n ih =>
    intro c h
    unfold id_fl at h
    split at h
    · rename_i a b e
      injection e with e
      subst e
      rw [Cond.before_and, Bool.and_eq_true]
      exact ⟨ih a fun w hw => h w (List.mem_append_left _ hw), ih b fun w hw => h w (List.mem_append_right _ hw)⟩
    · exact h _ (List.mem_singleton.mpr rfl)
def id_wo (w : Cond) : Bool := id_xs.any fun i => iv_at i w
theorem id_wo_s {w : Cond} (h : id_wo w = true) : w ∈ iv_Wd := by
  obtain ⟨i, _, hi⟩ := List.any_eq_true.mp h
  exact iv_at_s hi
set_option maxRecDepth 1000000 in
theorem id_ckD : (id_fl 60 (.and (.static vd_dN) (.and (.initialized "java/lang/Double") vd_dT))).all id_wo = true := by decide +kernel
set_option maxRecDepth 1000000 in
theorem id_ckF : (id_fl 60 (.and (.static vd_fN) (.and (.initialized "java/lang/Float") vd_fT))).all id_wo = true := by decide +kernel
set_option maxRecDepth 1000000 in
theorem id_ckA : (id_fl 60 (.and (.static Jvm.Free.NT.mathAbs64N) (.and (.initialized "java/lang/Math") (.code Jvm.Free.NT.mathAbs64N id_ab 2 (some .double))))).all id_wo = true := by decide +kernel
set_option maxRecDepth 1000000 in
theorem id_ckG : (id_fl 60 (.and (.static Jvm.Free.Hsc.MFloorA.yN) (.and (.initialized "java/lang/Math") Jvm.Free.Hsc.MFloorA.tab))).all id_wo = true := by decide +kernel
theorem id_w2 {a b c : Cond} {args : Array Value} {s : State} (h : (id_fl 60 (.and a (.and b c))).all id_wo = true) (hts : ∀ w ∈ iv_Wd, w.before args s = true) : a.before args s = true ∧ b.before args s = true ∧ c.before args s = true := by
  have g := id_fl_s (args := args) (s := s) 60 _ fun w hw => hts w (id_wo_s (List.all_eq_true.mp h w hw))
  rw [Cond.before_and, Bool.and_eq_true, Cond.before_and, Bool.and_eq_true] at g
  exact g
