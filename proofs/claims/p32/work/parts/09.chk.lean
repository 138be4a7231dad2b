section
theorem iv_ln_0 {i p : Nat} (h : p < iv_ln i) : i < 294 := by
  apply Classical.byContradiction
  intro q
  have e : Nat.ble 294 i = true := Nat.ble_eq_true_of_le (Nat.le_of_not_lt q)
  unfold iv_ln at h
  rw [e] at h
  exact absurd h (Nat.not_lt_zero _)
theorem iv_cd_in {i p : Nat} {op : Jvm.ClassFile.Instr} (h : iv_cd i p = some op) : i < 294 ∧ p < iv_ln i := by
  unfold iv_cd at h
  have hp := iv_blt (iv_bif h).1
  exact ⟨iv_ln_0 hp, hp⟩
theorem iv_dd {i p : Nat} {op : Jvm.ClassFile.Instr} (h : iv_cd i p = some op) : ∃ len, decode (iv_by i) p = .ok (op, len) ∧ (iv_n op = 0 ∨ len = iv_n op) := by
  obtain ⟨h1, h2⟩ := iv_cd_in h
  unfold iv_cd at h
  have h3 := (iv_bif h).2
  unfold iv_cd0 at h3
  have h4 := iv_bif (iv_bif h3).2
  have a := bd_t8_s 9 (show iv_Tr Jvm.ClassFile.Instr (11 + 9) from iv_cdT) 0 i p op (by omega) (iv_blt h4.1) (by rw [Nat.zero_add]; exact h2) bd_all h4.2
  rw [Nat.zero_add] at a
  rcases Bool.or_eq_true_iff.mp a with a | a
  · exact ⟨_, bd_ok rfl a, Or.inr rfl⟩
  · obtain ⟨a1, a2⟩ := Bool.and_eq_true_iff.mp a
    split at a2
    · rename_i q hq
      exact ⟨q.2, by rw [hq, ← of_decide_eq_true a2], Or.inl (Nat.eq_of_beq_eq_true a1)⟩
    · cases a2
theorem iv_dq {i p : Nat} {op : Jvm.ClassFile.Instr} (h : iv_cd i p = some op) (hn : iv_n op ≠ 0) : decode (iv_by i) p = .ok (op, iv_n op) := by
  obtain ⟨len, h1, h2⟩ := iv_dd h
  rw [h1, h2.resolve_left hn]
theorem iv_dw {i p : Nat} {op : Jvm.ClassFile.Instr} (h : iv_cd i p = some op) : ∃ len, decode (iv_by i) p = .ok (op, len) := by
  obtain ⟨len, h1, -⟩ := iv_dd h
  exact ⟨len, h1⟩
/-- a table's entries, one by one -/
def iv_tall {α : Type} : (n : Nat) → iv_Tr α n → Nat → (Nat → Bool) → Bool
  | 0, t, b, f => match (show Option α from t) with
    | none => true
    | some _ => f b
  | n + 1, t, b, f => iv_tall n (Prod.fst t) b f && iv_tall n (Prod.snd t) (b + 2 ^ n) f
theorem iv_tall_s {α : Type} {f : Nat → Bool} : ∀ (n : Nat) (t : iv_Tr α n) (b k : Nat) (a : α), k < 2 ^ n → iv_tall n t b f = true → iv_tl n t k = some a → f (b + k) = true := by
  intro n
  induction n with
  | zero =>
    intro t b k a hk h e
    have k0 : k = 0 := by simpa using hk
    subst k0
    have e' : (show Option α from t) = some a := e
    unfold iv_tall at h
    rw [e'] at h
    exact h
  | succ n ih =>
    intro t b k a hk h e
    have h' : iv_tall n (Prod.fst t) b f = true ∧ iv_tall n (Prod.snd t) (b + 2 ^ n) f = true := Bool.and_eq_true_iff.mp h
    have e' : (bif Nat.ble (2 ^ n) k then iv_tl n (Prod.snd t) (k - 2 ^ n) else iv_tl n (Prod.fst t) k) = some a := e
    rw [Nat.pow_succ] at hk
    cases q : Nat.ble (2 ^ n) k with
    | true =>
      have q1 := Nat.le_of_ble_eq_true q
      rw [q] at e'
      have r := ih (Prod.snd t) (b + 2 ^ n) (k - 2 ^ n) a (by omega) h'.2 e'
      rw [show b + k = b + 2 ^ n + (k - 2 ^ n) by omega]
      exact r
    | false =>
      have q1 := iv_blt q
      rw [q] at e'
      exact ih (Prod.fst t) b k a q1 h'.1 e'
theorem iv_tls {α : Type} {T : iv_Tr α 16} {c : Nat → Nat → Bool} (hT : iv_tall 16 T 0 (fun k => c (k / 2048) (k % 2048)) = true) {f i : Nat} (hf : f < 32) (hi : i < 2048) {q : α} (h : iv_tl 16 T (2048 * f + i) = some q) : c f i = true := by
  have r := iv_tall_s 16 T 0 (2048 * f + i) q (by omega) hT h
  have r : c ((0 + (2048 * f + i)) / 2048) ((0 + (2048 * f + i)) % 2048) = true := r
  rw [Nat.zero_add, show (2048 * f + i) / 2048 = f by omega, show (2048 * f + i) % 2048 = i by omega] at r
  exact r
theorem iv_t3 {α : Type} {T : iv_Tr α 16} {f i : Nat} {q : α} (h : (bif Nat.ble 2048 i then none else bif Nat.ble 32 f then none else iv_tl 16 T (2048 * f + i)) = some q) : iv_tl 16 T (2048 * f + i) = some q := (iv_bif (iv_bif h).2).2
/-- a method's code among the words: bytes compared as lists -/
def iv_atC (i : Nat) (y : MethodName) (b : ByteArray) (mx : Nat) (rt : Option FieldType) : Bool := match iv_bl 11 iv_tbl i with
  | some (.code y' b' mx' rt') => decide (y' = y) && decide (b'.data.toList = b.data.toList) && Nat.beq mx' mx && decide (rt' = rt)
  | _ => false
theorem iv_atC_s {i : Nat} {y : MethodName} {b : ByteArray} {mx : Nat} {rt : Option FieldType} (h : iv_atC i y b mx rt = true) : Cond.code y b mx rt ∈ iv_Wd := by
  unfold iv_atC at h
  split at h
  · rename_i y' b' mx' rt' e
    simp only [Bool.and_eq_true, decide_eq_true_eq] at h
    obtain ⟨⟨⟨h1, h2⟩, h3⟩, h4⟩ := h
    have h3 := Nat.eq_of_beq_eq_true h3
    have h5 : b' = b := by
      obtain ⟨⟨l'⟩⟩ := b'
      obtain ⟨⟨l⟩⟩ := b
      have h6 : l' = l := h2
      rw [h6]
    subst h1 h3 h4 h5
    exact List.mem_filter.mpr ⟨iv_bl_s e, rfl⟩
  · cases h
def iv_wo (p : Option Nat) (w : Cond) : Bool := match p with
  | some i => iv_at i w
  | none => false
theorem iv_wo_s {p : Option Nat} {w : Cond} (h : iv_wo p w = true) : w ∈ iv_Wd := by
  unfold iv_wo at h
  split at h
  · exact iv_at_s h
  · cases h
theorem iv_fd_in {f i : Nat} {q : _} (h : iv_fd f i = some q) : f < 32 ∧ i < 2048 := by
  unfold iv_fd at h
  have h1 := iv_bif h
  exact ⟨iv_blt (iv_bif h1.2).1, iv_blt h1.1⟩
theorem iv_nc_in {f i : Nat} {q : _} (h : iv_nc f i = some q) : f < 32 ∧ i < 2048 := by
  unfold iv_nc at h
  have h1 := iv_bif h
  exact ⟨iv_blt (iv_bif h1.2).1, iv_blt h1.1⟩
theorem iv_ac_in {f i : Nat} {q : _} (h : iv_ac f i = some q) : f < 32 ∧ i < 2048 := by
  unfold iv_ac at h
  have h1 := iv_bif h
  exact ⟨iv_blt (iv_bif h1.2).1, iv_blt h1.1⟩
theorem iv_mt_in {f i : Nat} {q : _} (h : iv_mt f i = some q) : f < 32 ∧ i < 2048 := by
  unfold iv_mt at h
  have h1 := iv_bif h
  exact ⟨iv_blt (iv_bif h1.2).1, iv_blt h1.1⟩
theorem iv_lc_in {f i : Nat} {q : _} (h : iv_lc f i = some q) : f < 32 ∧ i < 2048 := by
  unfold iv_lc at h
  have h1 := iv_bif h
  exact ⟨iv_blt (iv_bif h1.2).1, iv_blt h1.1⟩
theorem iv_l2_in {f i : Nat} {q : _} (h : iv_l2 f i = some q) : f < 32 ∧ i < 2048 := by
  unfold iv_l2 at h
  have h1 := iv_bif h
  exact ⟨iv_blt (iv_bif h1.2).1, iv_blt h1.1⟩
theorem iv_oj_in {f i : Nat} {q : _} (h : iv_oj f i = some q) : f < 32 ∧ i < 2048 := by
  unfold iv_oj at h
  have h1 := iv_bif h
  exact ⟨iv_blt (iv_bif h1.2).1, iv_blt h1.1⟩
theorem iv_mj_in {f i : Nat} {q : _} (h : iv_mj f i = some q) : f < 32 ∧ i < 2048 := by
  unfold iv_mj at h
  have h1 := iv_bif h
  exact ⟨iv_blt (iv_bif h1.2).1, iv_blt h1.1⟩
theorem iv_mk_in {f i : Nat} {q : _} (h : iv_mk f i = some q) : f < 32 ∧ i < 2048 := by
  unfold iv_mk at h
  have h1 := iv_bif h
  exact ⟨iv_blt (iv_bif h1.2).1, iv_blt h1.1⟩
theorem iv_cj_in {f i : Nat} {q : _} (h : iv_cj f i = some q) : f < 32 ∧ i < 2048 := by
  unfold iv_cj at h
  have h1 := iv_bif h
  exact ⟨iv_blt (iv_bif h1.2).1, iv_blt h1.1⟩
def iv_ckF (f i : Nat) : Bool := match iv_fd f i with
  | none => true
  | some q => match iv_cl[q.1]? with
    | none => false
    | some c => decide (q.2 < c.2.2) && (match iv_fn f i with | none => iv_wo (iv_fp f i) (.fieldLink (iv_cn f) i (c.2.1 q.2).1 (c.2.1 q.2).2.1 (c.2.1 q.2).2.2.1) | some hst => decide ((iv_cn f, i, (c.2.1 q.2).1, (c.2.1 q.2).2.1, (c.2.1 q.2).2.2.1, hst) ∈ iv_nf))
set_option maxRecDepth 1000000 in
theorem iv_ckF_all_fd : iv_tall 16 iv_fdT 0 (fun k => iv_ckF (k / 2048) (k % 2048)) = true := by decide +kernel
theorem iv_fF {f i : Nat} {q : Nat × Nat} (h : iv_fd f i = some q) : ∃ (C : String) (T : u_T) (N : Nat), iv_cl[q.1]? = some (C, T, N) ∧ q.2 < N ∧ (iv_fn f i = none → Cond.fieldLink (iv_cn f) i (T q.2).1 (T q.2).2.1 (T q.2).2.2.1 ∈ iv_Wd) ∧ (∀ x, iv_fn f i = some x → (iv_cn f, i, (T q.2).1, (T q.2).2.1, (T q.2).2.2.1, x) ∈ iv_nf) := by
  obtain ⟨a1, a2⟩ := iv_fd_in h
  have a := iv_tls iv_ckF_all_fd a1 a2 (iv_t3 h)
  unfold iv_ckF at a
  rw [h] at a
  dsimp only at a
  split at a
  · cases a
  · rename_i c hc
    simp only [Bool.and_eq_true, decide_eq_true_eq] at a
    refine ⟨c.1, c.2.1, c.2.2, hc, a.1, fun hn => ?_, fun x hx => ?_⟩
    · have b := a.2
      rw [hn] at b
      exact iv_wo_s b
    · have b := a.2
      rw [hx] at b
      exact of_decide_eq_true b
def iv_ckN (f i : Nat) : Bool := match iv_nc f i with
  | none => true
  | some q => match iv_cl[q]? with
    | none => false
    | some c => iv_wo (iv_np f i) (.classLink (iv_cn f) i c.1)
set_option maxRecDepth 1000000 in
theorem iv_ckN_all_nc : iv_tall 16 iv_ncT 0 (fun k => iv_ckN (k / 2048) (k % 2048)) = true := by decide +kernel
theorem iv_fN {f i q : Nat} (h : iv_nc f i = some q) : ∃ (C : String) (T : u_T) (N : Nat), iv_cl[q]? = some (C, T, N) ∧ Cond.classLink (iv_cn f) i C ∈ iv_Wd := by
  obtain ⟨a1, a2⟩ := iv_nc_in h
  have a := iv_tls iv_ckN_all_nc a1 a2 (iv_t3 h)
  unfold iv_ckN at a
  rw [h] at a
  dsimp only at a
  split at a
  · cases a
  · rename_i c hc
    exact ⟨c.1, c.2.1, c.2.2, hc, iv_wo_s a⟩
def iv_ckQ (f i : Nat) : Bool := match iv_ac f i with
  | none => true
  | some q => match iv_ty[q]? with
    | some (.object C) => decide (C ∈ iv_ao) && iv_wo (iv_np f i) (.classLink (iv_cn f) i C)
    | _ => false
set_option maxRecDepth 1000000 in
theorem iv_ckQ_all_ac : iv_tall 16 iv_acT 0 (fun k => iv_ckQ (k / 2048) (k % 2048)) = true := by decide +kernel
theorem iv_fQ {f i t : Nat} (h : iv_ac f i = some t) : ∃ C : String, iv_ty[t]? = some (.object C) ∧ Cond.classLink (iv_cn f) i C ∈ iv_Wd ∧ C ∈ iv_ao := by
  obtain ⟨a1, a2⟩ := iv_ac_in h
  have a := iv_tls iv_ckQ_all_ac a1 a2 (iv_t3 h)
  unfold iv_ckQ at a
  rw [h] at a
  dsimp only at a
  split at a
  · rename_i C hc
    simp only [Bool.and_eq_true, decide_eq_true_eq] at a
    exact ⟨C, hc, iv_wo_s a.2, a.1⟩
  · cases a
def iv_ckL (f i : Nat) : Bool := (match iv_lc f i with
  | none => true
  | some v => iv_wo (iv_lp f i) (.constant (iv_cn f) i v)) && (match iv_l2 f i with
  | none => true
  | some v => iv_wo (iv_l2p f i) (.constantLong (iv_cn f) i v))
set_option maxRecDepth 1000000 in
theorem iv_ckL_all_lc : iv_tall 16 iv_lcT 0 (fun k => iv_ckL (k / 2048) (k % 2048)) = true := by decide +kernel
set_option maxRecDepth 1000000 in
theorem iv_ckL_all_l2 : iv_tall 16 iv_l2T 0 (fun k => iv_ckL (k / 2048) (k % 2048)) = true := by decide +kernel
theorem iv_fL {f i : Nat} {v : Int32} (h : iv_lc f i = some v) : Cond.constant (iv_cn f) i v ∈ iv_Wd := by
  obtain ⟨a1, a2⟩ := iv_lc_in h
  have a := iv_tls iv_ckL_all_lc a1 a2 (iv_t3 h)
  unfold iv_ckL at a
  rw [h] at a
  exact iv_wo_s (Bool.and_eq_true_iff.mp a).1
theorem iv_fL2 {f i : Nat} {v : Int64} (h : iv_l2 f i = some v) : Cond.constantLong (iv_cn f) i v ∈ iv_Wd := by
  obtain ⟨a1, a2⟩ := iv_l2_in h
  have a := iv_tls iv_ckL_all_l2 a1 a2 (iv_t3 h)
  unfold iv_ckL at a
  rw [h] at a
  exact iv_wo_s (Bool.and_eq_true_iff.mp a).2
def iv_ckO (f i : Nat) : Bool := (match iv_oj f i with
  | none => true
  | some _ => iv_wo (iv_op_ f i) (.methodLink (iv_cn f) i Lib.objectInit) && iv_wo (iv_xpos[0]?) (.instanceMethod Lib.objectInit) && iv_wo (iv_xpos[1]?) (.code Lib.objectInit ⟨#[0xb1]⟩ 1 none)) && (match iv_cj f i with
  | none => true
  | some _ => iv_wo (iv_cpp f i) (.methodLink (iv_cn f) i arraycopyName) && iv_wo (iv_xpos[2]?) (.native arraycopyName) && iv_wo (iv_xpos[3]?) (.static arraycopyName) && iv_wo (iv_xpos[4]?) (.initialized "java/lang/System"))
set_option maxRecDepth 1000000 in
theorem iv_ckO_all_oj : iv_tall 16 iv_ojT 0 (fun k => iv_ckO (k / 2048) (k % 2048)) = true := by decide +kernel
set_option maxRecDepth 1000000 in
theorem iv_ckO_all_cj : iv_tall 16 iv_cjT 0 (fun k => iv_ckO (k / 2048) (k % 2048)) = true := by decide +kernel
theorem iv_fO {f i : Nat} (h : iv_oi f i = true) : Cond.methodLink (iv_cn f) i Lib.objectInit ∈ iv_Wd ∧ Cond.instanceMethod Lib.objectInit ∈ iv_Wd ∧ Cond.code Lib.objectInit ⟨#[0xb1]⟩ 1 none ∈ iv_Wd := by
  obtain ⟨v, hv⟩ := Option.isSome_iff_exists.mp h
  obtain ⟨a1, a2⟩ := iv_oj_in hv
  have a := iv_tls iv_ckO_all_oj a1 a2 (iv_t3 hv)
  unfold iv_ckO at a
  rw [hv] at a
  have b := (Bool.and_eq_true_iff.mp a).1
  simp only [Bool.and_eq_true] at b
  exact ⟨iv_wo_s b.1.1, iv_wo_s b.1.2, iv_wo_s b.2⟩
theorem iv_fY {f i : Nat} (h : iv_cp f i = true) : Cond.methodLink (iv_cn f) i arraycopyName ∈ iv_Wd ∧ Cond.native arraycopyName ∈ iv_Wd ∧ Cond.static arraycopyName ∈ iv_Wd ∧ Cond.initialized "java/lang/System" ∈ iv_Wd := by
  obtain ⟨v, hv⟩ := Option.isSome_iff_exists.mp h
  obtain ⟨a1, a2⟩ := iv_cj_in hv
  have a := iv_tls iv_ckO_all_cj a1 a2 (iv_t3 hv)
  unfold iv_ckO at a
  rw [hv] at a
  have b := (Bool.and_eq_true_iff.mp a).2
  simp only [Bool.and_eq_true] at b
  exact ⟨iv_wo_s b.1.1.1, iv_wo_s b.1.1.2, iv_wo_s b.1.2, iv_wo_s b.2⟩
def iv_ckY (f i : Nat) : Bool := match iv_mj f i with
  | none => true
  | some _ => iv_wo (iv_mmp f i) (.methodLink (iv_cn f) i Lib.Math.min.name) && iv_wo (iv_xpos[5]?) (.static Lib.Math.min.name) && iv_wo (iv_xpos[6]?) (.initialized "java/lang/Math") && iv_wo (iv_xpos[7]?) (.code Lib.Math.min.name Lib.Math.min.code 2 (some .int))
set_option maxRecDepth 1000000 in
theorem iv_ckY_all_mj : iv_tall 16 iv_mjT 0 (fun k => iv_ckY (k / 2048) (k % 2048)) = true := by decide +kernel
theorem iv_fMm {f i : Nat} (h : iv_mm f i = true) : Cond.methodLink (iv_cn f) i Lib.Math.min.name ∈ iv_Wd ∧ Cond.static Lib.Math.min.name ∈ iv_Wd ∧ Cond.initialized "java/lang/Math" ∈ iv_Wd ∧ Cond.code Lib.Math.min.name Lib.Math.min.code 2 (some .int) ∈ iv_Wd := by
  obtain ⟨v, hv⟩ := Option.isSome_iff_exists.mp h
  obtain ⟨a1, a2⟩ := iv_mj_in hv
  have a := iv_tls iv_ckY_all_mj a1 a2 (iv_t3 hv)
  unfold iv_ckY at a
  rw [hv] at a
  simp only [Bool.and_eq_true] at a
  exact ⟨iv_wo_s a.1.1.1, iv_wo_s a.1.1.2, iv_wo_s a.1.2, iv_wo_s a.2⟩
def iv_ckX2 (f i : Nat) : Bool := match iv_mk f i with
  | none => true
  | some _ => iv_wo (iv_map f i) (.methodLink (iv_cn f) i Lib.Math.max.name) && iv_wo (iv_xpos[8]?) (.static Lib.Math.max.name) && iv_wo (iv_xpos[6]?) (.initialized "java/lang/Math") && iv_wo (iv_xpos[9]?) (.code Lib.Math.max.name Lib.Math.max.code 2 (some .int))
set_option maxRecDepth 1000000 in
theorem iv_ckX2_all_mk : iv_tall 16 iv_mkT 0 (fun k => iv_ckX2 (k / 2048) (k % 2048)) = true := by decide +kernel
theorem iv_fMx {f i : Nat} (h : iv_ma f i = true) : Cond.methodLink (iv_cn f) i Lib.Math.max.name ∈ iv_Wd ∧ Cond.static Lib.Math.max.name ∈ iv_Wd ∧ Cond.initialized "java/lang/Math" ∈ iv_Wd ∧ Cond.code Lib.Math.max.name Lib.Math.max.code 2 (some .int) ∈ iv_Wd := by
  obtain ⟨v, hv⟩ := Option.isSome_iff_exists.mp h
  obtain ⟨a1, a2⟩ := iv_mk_in hv
  have a := iv_tls iv_ckX2_all_mk a1 a2 (iv_t3 hv)
  unfold iv_ckX2 at a
  rw [hv] at a
  simp only [Bool.and_eq_true] at a
  exact ⟨iv_wo_s a.1.1.1, iv_wo_s a.1.1.2, iv_wo_s a.1.2, iv_wo_s a.2⟩
def iv_nrv (v : Value) : Bool := match v with
  | .ref _ => false
  | .retAddr _ => false
  | _ => true
def iv_ckC (c : Nat) : Bool := match iv_cl[c]? with
  | none => false
  | some r => Nat.beq (iv_df c).length r.2.2 && decide (r.1 = iv_cn (iv_ow c)) && iv_wo ((iv_cpos c)[0]?) (.instantiable r.1 r.2.2) && iv_wo ((iv_cpos c)[1]?) (.initialized r.1) && (iv_df c).all iv_nrv &&
    (List.range r.2.2).all (fun k => iv_wo ((iv_cpos c)[k + 2]?) (u_lay r.1 r.2.1 k) && decide (parseFieldDescriptor (r.2.1 k).2.2.1 = some (iv_ft c k)) && (!iv_fi c k || decide ((r.2.1 k).1 = r.1)) && decide ((r.2.1 k).2.2.2 = iv_fi c k) && decide (defaultValue (iv_ft c k) = vp_V (iv_df c) k)) &&
    (List.range r.2.2).all (fun a => (List.range r.2.2).all (fun b => Nat.beq a b || decide ((r.2.1 a).2.1 ≠ (r.2.1 b).2.1)))
set_option maxRecDepth 1000000 in
theorem iv_ckC_all : (List.range iv_cl.length).all iv_ckC = true := by decide +kernel
theorem iv_fC {c : Nat} {C : String} {T : u_T} {N : Nat} (h : iv_cl[c]? = some (C, T, N)) : (∀ w ∈ u_ws C T N, w ∈ iv_Wd) ∧ (∀ k, k < N → parseFieldDescriptor (T k).2.2.1 = some (iv_ft c k)) ∧ (∀ a, a < N → ∀ b, b < N → a ≠ b → (T a).2.1 ≠ (T b).2.1) ∧ Cond.instantiable C N ∈ iv_Wd ∧ Cond.initialized C ∈ iv_Wd ∧ (iv_df c).length = N ∧ (∀ j, j < N → defaultValue (iv_ft c j) = vp_V (iv_df c) j) ∧ (∀ k, k < N → (iv_fi c k = true → (T k).1 = C) ∧ (T k).2.2.2 = iv_fi c k) ∧ C = iv_cn (iv_ow c) ∧ (∀ v ∈ iv_df c, iv_nrv v = true) := by
  have hl : c < iv_cl.length := (List.getElem?_eq_some_iff.mp h).1
  have a := List.all_eq_true.mp iv_ckC_all c (List.mem_range.mpr hl)
  unfold iv_ckC at a
  rw [h] at a
  dsimp only at a
  simp only [Bool.and_eq_true, decide_eq_true_eq] at a
  obtain ⟨⟨⟨⟨⟨⟨a1, a2⟩, a3⟩, a4⟩, a5⟩, a6⟩, a7⟩ := a
  have b := fun (k : Nat) (hk : k < N) => List.all_eq_true.mp a6 k (List.mem_range.mpr hk)
  simp only [Bool.and_eq_true, decide_eq_true_eq, Bool.or_eq_true, Bool.not_eq_true'] at b
  refine ⟨fun w hw => ?_, fun k hk => (b k hk).1.1.1.2, fun x hx y hy hne => ?_, iv_wo_s a3, iv_wo_s a4, Nat.eq_of_beq_eq_true a1, fun j hj => (b j hj).2, fun k hk => ⟨fun hf => (b k hk).1.1.2.resolve_left (by rw [hf]; decide), (b k hk).1.2⟩, a2, fun v hv => List.all_eq_true.mp a5 v hv⟩
  · obtain ⟨k, hk, rfl⟩ := List.mem_map.mp hw
    exact iv_wo_s (b k (List.mem_range.mp hk)).1.1.1.1
  · have q := List.all_eq_true.mp (List.all_eq_true.mp a7 x (List.mem_range.mpr hx)) y (List.mem_range.mpr hy)
    simp only [Bool.or_eq_true, decide_eq_true_eq] at q
    rcases q with q | q
    · exact absurd (Nat.eq_of_beq_eq_true q) hne
    · exact q
/-- the class of a method's receivers -/
def iv_rn (i : Nat) : String := match iv_rc i with
  | some c => match iv_cl[c]? with
    | some r => r.1
    | none => ""
  | none => ""
/-- it is selected for its receivers -/
def iv_hs (i : Nat) : Bool := iv_at (iv_pl i) (.selects (iv_rn i) (iv_y i) (iv_y i))
def iv_ckM (i : Nat) : Bool := iv_atC (iv_pc i) (iv_y i) (iv_by i) (iv_mx i) (iv_rt i) && iv_at (iv_pi_ i) (.initialized (iv_y i).cls) && plainName (iv_y i).cls && decide ((iv_y i).cls ≠ "java/lang/invoke/MethodHandle" ∧ (iv_y i).cls ≠ "java/lang/invoke/VarHandle") && decide ((parseMethodDescriptor (iv_y i).desc).map (fun d => d.parameters.length) = some (iv_na i)) && Nat.ble (iv_mx i) 23 && decide ((iv_y i).cls = iv_cn (iv_kf i)) && (match iv_rc i with
  | none => iv_at (iv_ps i) (.static (iv_y i)) && !(iv_ini i)
  | some c => iv_at (iv_ps i) (.instanceMethod (iv_y i)) && (match iv_cl[c]? with
    | some r => true
    | none => false) && (bif iv_ini i then decide ((iv_y i).name = "<init>") && decide (iv_rt i = none) else decide ((iv_y i).name ≠ "<init>")))
def iv_nos : List Nat := [0, 1, 2, 3, 4, 5, 6, 7, 8, 9, 18, 19, 20, 21, 22, 23, 24, 25, 26, 27, 28, 29, 30, 31, 32, 33, 34, 35, 36, 37, 38, 39, 40, 41, 42, 43, 44, 45, 46, 47, 48, 49, 50, 51, 52, 53, 54, 55, 56, 57, 58, 59, 60, 61, 62, 63, 64, 65, 66, 67, 68, 69, 70, 71, 72, 73, 74, 75, 76, 77, 78, 79, 81, 82, 83, 84, 85, 86, 87, 88, 89, 90, 91, 93, 94, 95, 97, 98, 99, 100, 101, 106, 107, 108, 110, 111, 112, 113, 114, 115, 116, 117, 118, 119, 120, 122, 125, 126, 127, 128, 230, 235, 237, 238, 239, 240, 241, 242, 243, 244, 245, 246, 247, 248, 249, 250, 251, 252, 253, 254, 255, 256, 257, 258, 259, 260, 261, 262, 263, 264, 265, 266, 267, 268, 269, 270, 271, 272, 273, 274, 275, 276, 277, 278, 279, 280, 281, 282, 283, 284, 285, 286, 287, 288, 289, 290, 291, 292, 293]
set_option maxRecDepth 1000000 in
theorem iv_ckMA_0 : [0, 1, 2, 3, 4, 5, 6, 7, 8, 9, 18, 19, 20, 21, 22, 23, 24, 25, 26, 27, 28, 29, 30, 31, 32, 33, 34, 35, 36, 37, 38, 39, 40, 41, 42, 43, 44, 45, 46, 47].all iv_ckM = true := by decide +kernel
set_option maxRecDepth 1000000 in
theorem iv_ckMA_1 : [48, 49, 50, 51, 52, 53, 54, 55, 56, 57, 58, 59, 60, 61, 62, 63, 64, 65, 66, 67, 68, 69, 70, 71, 72, 73, 74, 75, 76, 77, 78, 79, 81, 82, 83, 84, 85, 86, 87, 88].all iv_ckM = true := by decide +kernel
set_option maxRecDepth 1000000 in
theorem iv_ckMA_2 : [89, 90, 91, 93, 94, 95, 97, 98, 99, 100, 101, 106, 107, 108, 110, 111, 112, 113, 114, 115, 116, 117, 118, 119, 120, 122, 125, 126, 127, 128, 230, 235, 237, 238, 239, 240, 241, 242, 243, 244].all iv_ckM = true := by decide +kernel
set_option maxRecDepth 1000000 in
theorem iv_ckMA_3 : [245, 246, 247, 248, 249, 250, 251, 252, 253, 254, 255, 256, 257, 258, 259, 260, 261, 262, 263, 264, 265, 266, 267, 268, 269, 270, 271, 272, 273, 274, 275, 276, 277, 278, 279, 280, 281, 282, 283, 284].all iv_ckM = true := by decide +kernel
set_option maxRecDepth 1000000 in
theorem iv_ckMA_4 : [285, 286, 287, 288, 289, 290, 291, 292, 293].all iv_ckM = true := by decide +kernel
set_option maxRecDepth 1000000 in
theorem iv_nos_s : iv_nos = [0, 1, 2, 3, 4, 5, 6, 7, 8, 9, 18, 19, 20, 21, 22, 23, 24, 25, 26, 27, 28, 29, 30, 31, 32, 33, 34, 35, 36, 37, 38, 39, 40, 41, 42, 43, 44, 45, 46, 47] ++ [48, 49, 50, 51, 52, 53, 54, 55, 56, 57, 58, 59, 60, 61, 62, 63, 64, 65, 66, 67, 68, 69, 70, 71, 72, 73, 74, 75, 76, 77, 78, 79, 81, 82, 83, 84, 85, 86, 87, 88] ++ [89, 90, 91, 93, 94, 95, 97, 98, 99, 100, 101, 106, 107, 108, 110, 111, 112, 113, 114, 115, 116, 117, 118, 119, 120, 122, 125, 126, 127, 128, 230, 235, 237, 238, 239, 240, 241, 242, 243, 244] ++ [245, 246, 247, 248, 249, 250, 251, 252, 253, 254, 255, 256, 257, 258, 259, 260, 261, 262, 263, 264, 265, 266, 267, 268, 269, 270, 271, 272, 273, 274, 275, 276, 277, 278, 279, 280, 281, 282, 283, 284] ++ [285, 286, 287, 288, 289, 290, 291, 292, 293] := rfl
theorem iv_ckM_all {i : Nat} (h : i ∈ iv_nos) : iv_ckM i = true := by
  rw [iv_nos_s] at h
  simp only [List.mem_append] at h
  rcases h with (((h | h) | h) | h) | h
  · exact List.all_eq_true.mp iv_ckMA_0 i h
  · exact List.all_eq_true.mp iv_ckMA_1 i h
  · exact List.all_eq_true.mp iv_ckMA_2 i h
  · exact List.all_eq_true.mp iv_ckMA_3 i h
  · exact List.all_eq_true.mp iv_ckMA_4 i h
theorem iv_fM {i : Nat} (h : i ∈ iv_nos) : Cond.code (iv_y i) (iv_by i) (iv_mx i) (iv_rt i) ∈ iv_Wd ∧ Cond.initialized (iv_y i).cls ∈ iv_Wd ∧ plainName (iv_y i).cls = true ∧ ((iv_y i).cls ≠ "java/lang/invoke/MethodHandle" ∧ (iv_y i).cls ≠ "java/lang/invoke/VarHandle" ∧ (parseMethodDescriptor (iv_y i).desc).map (fun d => d.parameters.length) = some (iv_na i)) ∧ iv_mx i ≤ 23 ∧ (iv_y i).cls = iv_cn (iv_kf i) ∧ (iv_rc i = none → Cond.static (iv_y i) ∈ iv_Wd ∧ iv_ini i = false) ∧ (∀ c, iv_rc i = some c → Cond.instanceMethod (iv_y i) ∈ iv_Wd ∧ (∃ (T : u_T) (N : Nat), iv_cl[c]? = some (iv_rn i, T, N)) ∧ (iv_ini i = true → (iv_y i).name = "<init>" ∧ iv_rt i = none) ∧ (iv_ini i = false → (iv_y i).name ≠ "<init>")) := by
  have a := iv_ckM_all h
  unfold iv_ckM at a
  simp only [Bool.and_eq_true, decide_eq_true_eq] at a
  obtain ⟨⟨⟨⟨⟨⟨⟨a1, a2⟩, a3⟩, a4⟩, a5⟩, a6⟩, a7⟩, a8⟩ := a
  refine ⟨iv_atC_s a1, iv_at_s a2, a3, ⟨a4.1, a4.2, a5⟩, Nat.le_of_ble_eq_true a6, a7, fun hc => ?_, fun c hc => ?_⟩
  · rw [hc] at a8
    simp only [Bool.and_eq_true, Bool.not_eq_true'] at a8
    exact ⟨iv_at_s a8.1, a8.2⟩
  · rw [hc] at a8
    simp only [Bool.and_eq_true] at a8
    obtain ⟨⟨b1, b2⟩, b3⟩ := a8
    refine ⟨iv_at_s b1, ?_, fun hi => ?_, fun hi => ?_⟩
    · split at b2
      · rename_i r hr
        refine ⟨r.2.1, r.2.2, ?_⟩
        unfold iv_rn
        rw [hc]
        dsimp only
        rw [hr]
      · cases b2
    · rw [hi] at b3
      have b3 := Bool.and_eq_true_iff.mp (show (_ && _) = true from b3)
      exact ⟨of_decide_eq_true b3.1, of_decide_eq_true b3.2⟩
    · rw [hi] at b3
      exact of_decide_eq_true b3
/-- a word at one of the places of the words for inherited methods -/
def id_so (w : Cond) : Bool := iv_sos.any fun i => iv_at i w
theorem id_so_s {w : Cond} (h : id_so w = true) : w ∈ iv_Wd := by
  obtain ⟨i, _, hi⟩ := List.any_eq_true.mp h
  exact iv_at_s hi
/-- a call's words -/
def iv_ckT (f i : Nat) : Bool := match iv_mt f i with
  | none => true
  | some j => decide (j ∈ iv_nos) && (match iv_kd f i with
    | none => (match iv_nn f i with
      | none => iv_wo (iv_mp f i) (.methodLink (iv_cn f) i (iv_y j)) && (iv_ini j || Option.isNone (iv_rc j) || (iv_hs j && decide (iv_rn j = (iv_y j).cls)))
      | some h => decide ((iv_cn f, i, iv_y j, h) ∈ iv_nw))
    | some 1 => iv_wo (iv_mp f i) (.methodLink (iv_cn f) i (iv_y j)) && (iv_hs j && id_so (.sameMethod (iv_y j).cls (iv_y j).cls (iv_y j).name (iv_y j).desc))
    | some 2 => (match iv_ux f i with
      | some x => iv_wo (iv_mp f i) (.methodLink (iv_cn f) i (iv_y x)) && (id_so (.sameMethod (iv_y x).cls (iv_y x).cls (iv_y x).name (iv_y x).desc) && (decide (x ∈ iv_nos) && (iv_at (iv_ps x) (.instanceMethod (iv_y x)) && (id_so (.selects (iv_rn j) (iv_y x) (iv_y j)) && decide ((iv_y x).desc = (iv_y j).desc)))))
      | none => false)
    | some 3 => iv_wo (iv_mp f i) (.methodLink (iv_cn f) i (iv_y j)) && (id_so (.sameMethod (iv_y j).cls (iv_y j).cls (iv_y j).name (iv_y j).desc) && (id_so (.superclass (iv_cn f) (iv_y j).cls) && decide (iv_rn j = iv_cn f)))
    | _ => false)
set_option maxRecDepth 1000000 in
theorem iv_ckT_all_mt : iv_tall 16 iv_mtT 0 (fun k => iv_ckT (k / 2048) (k % 2048)) = true := by decide +kernel
theorem iv_ckT_s {f i j : Nat} (h : iv_mt f i = some j) : iv_ckT f i = true := by
  obtain ⟨a1, a2⟩ := iv_mt_in h
  exact iv_tls iv_ckT_all_mt a1 a2 (iv_t3 h)
set_option maxRecDepth 1000000 in
theorem iv_ckA_all : iv_wo (iv_apos[0]?) (.arrayClass .int) = true ∧ iv_wo (iv_apos[1]?) (.arrayClass .long) = true ∧ iv_wo (iv_apos[2]?) (.arrayClass .boolean) = true ∧ iv_wo (iv_apos[3]?) (.arrayClass .byte) = true := by decide +kernel
theorem iv_nfw : nativeFrameWords "java/lang/System" "arraycopy" 5 + 11 + 8 ≤ 100 := by decide +kernel
set_option maxRecDepth 1000000 in
theorem iv_ckX : (iv_nw.all fun q => decide (Cond.methodLinkNest q.1 q.2.1 q.2.2.1 q.2.2.2 ∈ lw_tbl)) = true ∧ (iv_nf.all fun q => decide (Cond.fieldLinkNest q.1 q.2.1 q.2.2.1 q.2.2.2.1 q.2.2.2.2.1 q.2.2.2.2.2 ∈ lw_tbl)) = true ∧ (iv_ao.all fun C => decide (Cond.arrayOver (.object C) ∈ lw_tbl)) = true ∧ Cond.arrayOver (.array .int) ∈ lw_tbl := by decide +kernel
theorem iv_ss_in {f i : Nat} {q : _} (h : iv_ss f i = some q) : f < 32 ∧ i < 2048 := by
  unfold iv_ss at h
  have h1 := iv_bif h
  exact ⟨iv_blt (iv_bif h1.2).1, iv_blt h1.1⟩
theorem iv_ka_in {f i : Nat} {q : _} (h : iv_ka f i = some q) : f < 32 ∧ i < 2048 := by
  unfold iv_ka at h
  have h1 := iv_bif h
  exact ⟨iv_blt (iv_bif h1.2).1, iv_blt h1.1⟩
theorem iv_cv_in {f i : Nat} {q : _} (h : iv_cv f i = some q) : f < 32 ∧ i < 2048 := by
  unfold iv_cv at h
  have h1 := iv_bif h
  exact ⟨iv_blt (iv_bif h1.2).1, iv_blt h1.1⟩
theorem iv_mn_in {f i : Nat} {q : _} (h : iv_mn f i = some q) : f < 32 ∧ i < 2048 := by
  unfold iv_mn at h
  have h1 := iv_bif h
  exact ⟨iv_blt (iv_bif h1.2).1, iv_blt h1.1⟩
/-- the static fields that are read -/
def iv_sn (k : Nat) : String × String × String := match k with
  | 0 => ("java/lang/String", "COMPACT_STRINGS", "Z")
  | 1 => ("java/lang/Integer", "DigitOnes", "[B")
  | 2 => ("java/lang/Integer", "DigitTens", "[B")
  | _ => ("jdk/internal/util/Preconditions", "SIOOBE_FORMATTER", "Ljava/util/function/BiFunction;")
/-- arrays' types that are cast to, cloned: 0 of ints, 3 of bytes -/
def iv_an (t : Nat) : String := bif Nat.beq t 0 then "[I" else "[B"
def iv_at_ (t : Nat) : FieldType := bif Nat.beq t 0 then .int else .byte
def iv_oc_ : MethodName := ⟨"java/lang/Object", "clone", "()Ljava/lang/Object;"⟩
def iv_ckZ (f i : Nat) : Bool := (match iv_ss f i with
  | none => true
  | some k => iv_wo (iv_ssp f i) (.fieldLink (iv_cn f) i (iv_sn k).1 (iv_sn k).2.1 (iv_sn k).2.2)) && ((match iv_ka f i with
  | none => true
  | some t => iv_wo (iv_np f i) (.classLink (iv_cn f) i (iv_an t)) && decide (iv_ty[t]? = some (iv_at_ t))) && ((match iv_cv f i with
  | none => true
  | some t => iv_wo (iv_cvp f i) (.methodLink (iv_cn f) i ⟨iv_an t, "clone", "()Ljava/lang/Object;"⟩) && (id_so (.sameMethod (iv_an t) "java/lang/Object" "clone" "()Ljava/lang/Object;") && (id_so (.native iv_oc_) && (id_so (.instanceMethod iv_oc_) && (id_so (.selects (iv_an t) ⟨iv_an t, "clone", "()Ljava/lang/Object;"⟩ iv_oc_) && decide (iv_ty[t]? = some (iv_at_ t))))))) && (match iv_mn f i with
  | none => true
  | some _ => iv_wo (iv_np f i) (.classLink (iv_cn f) i "[[I"))))
set_option maxRecDepth 1000000 in
theorem iv_ckZ_all_ss : iv_tall 16 iv_ssT 0 (fun k => iv_ckZ (k / 2048) (k % 2048)) = true := by decide +kernel
set_option maxRecDepth 1000000 in
theorem iv_ckZ_all_ka : iv_tall 16 iv_kaT 0 (fun k => iv_ckZ (k / 2048) (k % 2048)) = true := by decide +kernel
set_option maxRecDepth 1000000 in
theorem iv_ckZ_all_ck : iv_tall 16 iv_cvT 0 (fun k => iv_ckZ (k / 2048) (k % 2048)) = true := by decide +kernel
set_option maxRecDepth 1000000 in
theorem iv_ckZ_all_mn : iv_tall 16 iv_mnT 0 (fun k => iv_ckZ (k / 2048) (k % 2048)) = true := by decide +kernel
theorem iv_fS {f i k : Nat} (h : iv_ss f i = some k) : Cond.fieldLink (iv_cn f) i (iv_sn k).1 (iv_sn k).2.1 (iv_sn k).2.2 ∈ iv_Wd := by
  obtain ⟨a1, a2⟩ := iv_ss_in h
  have a := iv_tls iv_ckZ_all_ss a1 a2 (iv_t3 h)
  unfold iv_ckZ at a
  rw [h] at a
  exact iv_wo_s (Bool.and_eq_true_iff.mp a).1
theorem iv_fK {f i t : Nat} (h : iv_ka f i = some t) : Cond.classLink (iv_cn f) i (iv_an t) ∈ iv_Wd ∧ iv_ty[t]? = some (iv_at_ t) := by
  obtain ⟨a1, a2⟩ := iv_ka_in h
  have a := iv_tls iv_ckZ_all_ka a1 a2 (iv_t3 h)
  unfold iv_ckZ at a
  rw [h] at a
  have b := Bool.and_eq_true_iff.mp (Bool.and_eq_true_iff.mp (Bool.and_eq_true_iff.mp a).2).1
  exact ⟨iv_wo_s b.1, of_decide_eq_true b.2⟩
theorem iv_fCl {f i t : Nat} (h : iv_cv f i = some t) : Cond.methodLink (iv_cn f) i ⟨iv_an t, "clone", "()Ljava/lang/Object;"⟩ ∈ iv_Wd ∧ Cond.sameMethod (iv_an t) "java/lang/Object" "clone" "()Ljava/lang/Object;" ∈ iv_Wd ∧ Cond.native iv_oc_ ∈ iv_Wd ∧ Cond.instanceMethod iv_oc_ ∈ iv_Wd ∧ Cond.selects (iv_an t) ⟨iv_an t, "clone", "()Ljava/lang/Object;"⟩ iv_oc_ ∈ iv_Wd ∧ iv_ty[t]? = some (iv_at_ t) := by
  obtain ⟨a1, a2⟩ := iv_cv_in h
  have a := iv_tls iv_ckZ_all_ck a1 a2 (iv_t3 h)
  unfold iv_ckZ at a
  rw [h] at a
  have b := Bool.and_eq_true_iff.mp (Bool.and_eq_true_iff.mp (Bool.and_eq_true_iff.mp (Bool.and_eq_true_iff.mp a).2).2).1
  obtain ⟨b0, b⟩ := b
  obtain ⟨b1, b⟩ := Bool.and_eq_true_iff.mp b
  obtain ⟨b2, b⟩ := Bool.and_eq_true_iff.mp b
  obtain ⟨b3, b⟩ := Bool.and_eq_true_iff.mp b
  obtain ⟨b4, b5⟩ := Bool.and_eq_true_iff.mp b
  exact ⟨iv_wo_s b0, id_so_s b1, id_so_s b2, id_so_s b3, id_so_s b4, of_decide_eq_true b5⟩
theorem iv_fMn {f i : Nat} (h : (iv_mn f i).isSome = true) : Cond.classLink (iv_cn f) i "[[I" ∈ iv_Wd := by
  obtain ⟨v, hv⟩ := Option.isSome_iff_exists.mp h
  obtain ⟨a1, a2⟩ := iv_mn_in hv
  have a := iv_tls iv_ckZ_all_mn a1 a2 (iv_t3 hv)
  unfold iv_ckZ at a
  rw [hv] at a
  exact iv_wo_s (Bool.and_eq_true_iff.mp (Bool.and_eq_true_iff.mp (Bool.and_eq_true_iff.mp a).2).2).2
end
section
/-! THE WORDS of double constants and of the JDK's methods over doubles and floats -/
theorem id_lc_in {f i : Nat} {q : _} (h : id_lc f i = some q) : f < 32 ∧ i < 2048 := by
  unfold id_lc at h
  have h1 := iv_bif h
  exact ⟨iv_blt (iv_bif h1.2).1, iv_blt h1.1⟩
theorem id_dj_in {f i : Nat} {q : _} (h : id_dj f i = some q) : f < 32 ∧ i < 2048 := by
  unfold id_dj at h
  have h1 := iv_bif h
  exact ⟨iv_blt (iv_bif h1.2).1, iv_blt h1.1⟩
def id_ckL (f i : Nat) : Bool := match id_lc f i with
  | none => true
  | some v => iv_wo (id_lcp f i) (.constantDouble (iv_cn f) i v)
set_option maxRecDepth 1000000 in
theorem id_ckL_all_lc : iv_tall 16 id_lcT 0 (fun k => id_ckL (k / 2048) (k % 2048)) = true := by decide +kernel
theorem id_fL {f i : Nat} {v : UInt64} (h : id_lc f i = some v) : Cond.constantDouble (iv_cn f) i v ∈ iv_Wd := by
  obtain ⟨a1, a2⟩ := id_lc_in h
  have a := iv_tls id_ckL_all_lc a1 a2 (iv_t3 h)
  unfold id_ckL at a
  rw [h] at a
  exact iv_wo_s a
def id_jy (k : Nat) : MethodName := match k with
  | 1 => vd_dN
  | _ => vd_fN
def id_ckJ (f i : Nat) : Bool := match id_dj f i with
  | none => true
  | some k => iv_wo (id_djp f i) (.methodLink (iv_cn f) i (id_jy k))
set_option maxRecDepth 1000000 in
theorem id_ckJ_all_dj : iv_tall 16 id_djT 0 (fun k => id_ckJ (k / 2048) (k % 2048)) = true := by decide +kernel
theorem id_fJ {f i k : Nat} (h : id_dj f i = some k) : Cond.methodLink (iv_cn f) i (id_jy k) ∈ iv_Wd := by
  obtain ⟨a1, a2⟩ := id_dj_in h
  have a := iv_tls id_ckJ_all_dj a1 a2 (iv_t3 h)
  unfold id_ckJ at a
  rw [h] at a
  exact iv_wo_s a
def id_fl : Nat → Cond → List Cond
  | n + 1, .and a b => id_fl n a ++ id_fl n b
  | _, c => [c]
theorem id_fl_s {args : Array Value} {s : State} : ∀ (n : Nat) (c : Cond), (∀ w ∈ id_fl n c, w.before args s = true) → c.before args s = true := by
  intro n
  induction n with
  | zero => intro c h; exact h c (by unfold id_fl; exact List.mem_singleton.mpr rfl)
  | succ n ih =>
    intro c h
    unfold id_fl at h
    split at h
    · rename_i a b e
      injection e with e
      subst e
      rw [Cond.before_and, Bool.and_eq_true]
      exact ⟨ih a fun w hw => h w (List.mem_append_left _ hw), ih b fun w hw => h w (List.mem_append_right _ hw)⟩
    · exact h _ (List.mem_singleton.mpr rfl)
def id_wo (w : Cond) : Bool := id_xs.any fun i => iv_at i w
theorem id_wo_s {w : Cond} (h : id_wo w = true) : w ∈ iv_Wd := by
  obtain ⟨i, _, hi⟩ := List.any_eq_true.mp h
  exact iv_at_s hi
set_option maxRecDepth 1000000 in
theorem id_ckD : (id_fl 60 (.and (.static vd_dN) (.and (.initialized "java/lang/Double") vd_dT))).all id_wo = true := by decide +kernel
set_option maxRecDepth 1000000 in
theorem id_ckF : (id_fl 60 (.and (.static vd_fN) (.and (.initialized "java/lang/Float") vd_fT))).all id_wo = true := by decide +kernel
theorem id_w2 {a b c : Cond} {args : Array Value} {s : State} (h : (id_fl 60 (.and a (.and b c))).all id_wo = true) (hts : ∀ w ∈ iv_Wd, w.before args s = true) : a.before args s = true ∧ b.before args s = true ∧ c.before args s = true := by
  have g := id_fl_s (args := args) (s := s) 60 _ fun w hw => hts w (id_wo_s (List.all_eq_true.mp h w hw))
  rw [Cond.before_and, Bool.and_eq_true, Cond.before_and, Bool.and_eq_true] at g
  exact g
end
