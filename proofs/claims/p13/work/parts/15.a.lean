section
theorem iv_ln_0 {i p : Nat} (h : p < iv_ln i) : i < 237 := by
  apply Classical.byContradiction
  intro q
  have e : Nat.ble 237 i = true := Nat.ble_eq_true_of_le (Nat.le_of_not_lt q)
  unfold iv_ln at h
  rw [e] at h
  exact absurd h (Nat.not_lt_zero _)
theorem iv_cd_in {i p : Nat} {op : Jvm.ClassFile.Instr} (h : iv_cd i p = some op) : i < 237 ∧ p < iv_ln i := by
  unfold iv_cd at h
  have hp := iv_blt (iv_bif h).1
  exact ⟨iv_ln_0 hp, hp⟩
theorem iv_dd {i p : Nat} {op : Jvm.ClassFile.Instr} (h : iv_cd i p = some op) : ∃ len, decode (iv_by i) p = .ok (op, len) ∧ (iv_n op = 0 ∨ len = iv_n op) := by
  obtain ⟨h1, h2⟩ := iv_cd_in h
  unfold iv_cd at h
  have h3 := (iv_bif h).2
  unfold iv_cd0 at h3
  have h4 := iv_bif (iv_bif h3).2
  have a := bd_t8_s 8 (show iv_Tr Jvm.ClassFile.Instr (11 + 8) from iv_cdT) 0 i p op (by omega) (iv_blt h4.1) (by rw [Nat.zero_add]; exact h2) bd_all h4.2
  rw [Nat.zero_add] at a
  rcases Bool.or_eq_true_iff.mp a with a | a
  · exact ⟨_, bd_ok rfl a, Or.inr rfl⟩
  · obtain ⟨a1, a2⟩ := Bool.and_eq_true_iff.mp a
    split at a2
    · rename_i q hq
      exact ⟨q.2, by rw [hq, ← of_decide_eq_true a2], Or.inl (Nat.eq_of_beq_eq_true a1)⟩
    · cases a2
theorem iv_dq {i p : Nat} {op : Jvm.ClassFile.Instr} (h : iv_cd i p = some op) (hn : iv_n op ≠ 0) : decode (iv_by i) p = .ok (op, iv_n op) := by
  obtain ⟨len, h1, h2⟩ := iv_dd h
  rw [h1, h2.resolve_left hn]
theorem iv_dw {i p : Nat} {op : Jvm.ClassFile.Instr} (h : iv_cd i p = some op) : ∃ len, decode (iv_by i) p = .ok (op, len) := by
  obtain ⟨len, h1, -⟩ := iv_dd h
  exact ⟨len, h1⟩
/-- a table's entries, one by one -/
def iv_tall {α : Type} : (n : Nat) → iv_Tr α n → Nat → (Nat → Bool) → Bool
  | 0, t, b, f => match (show Option α from t) with
    | none => true
    | some _ => f b
  | n + 1, t, b, f => iv_tall n (Prod.fst t) b f && iv_tall n (Prod.snd t) (b + 2 ^ n) f
theorem iv_tall_s {α : Type} {f : Nat → Bool} : ∀ (n : Nat) (t : iv_Tr α n) (b k : Nat) (a : α), k < 2 ^ n → iv_tall n t b f = true → iv_tl n t k = some a → f (b + k) = true := by
  intro n
  induction n with
  | zero =>
    intro t b k a hk h e
    have k0 : k = 0 := by simpa using hk
    subst k0
    have e' : (show Option α from t) = some a := e
    unfold iv_tall at h
    rw [e'] at h
    exact h
  | succ n ih =>
    intro t b k a hk h e
    have h' : iv_tall n (Prod.fst t) b f = true ∧ iv_tall n (Prod.snd t) (b + 2 ^ n) f = true := Bool.and_eq_true_iff.mp h
    have e' : (bif Nat.ble (2 ^ n) k then iv_tl n (Prod.snd t) (k - 2 ^ n) else iv_tl n (Prod.fst t) k) = some a := e
    rw [Nat.pow_succ] at hk
    cases q : Nat.ble (2 ^ n) k with
    | true =>
      have q1 := Nat.le_of_ble_eq_true q
      rw [q] at e'
      have r := ih (Prod.snd t) (b + 2 ^ n) (k - 2 ^ n) a (by omega) h'.2 e'
      rw [show b + k = b + 2 ^ n + (k - 2 ^ n) by omega]
      exact r
    | false =>
      have q1 := iv_blt q
      rw [q] at e'
      exact ih (Prod.fst t) b k a q1 h'.1 e'
theorem iv_tls {α : Type} {T : iv_Tr α 14} {c : Nat → Nat → Bool} (hT : iv_tall 14 T 0 (fun k => c (k / 1024) (k % 1024)) = true) {f i : Nat} (hf : f < 16) (hi : i < 512) {q : α} (h : iv_tl 14 T (1024 * f + i) = some q) : c f i = true := by
  have r := iv_tall_s 14 T 0 (1024 * f + i) q (by omega) hT h
  have r : c ((0 + (1024 * f + i)) / 1024) ((0 + (1024 * f + i)) % 1024) = true := r
  rw [Nat.zero_add, show (1024 * f + i) / 1024 = f by omega, show (1024 * f + i) % 1024 = i by omega] at r
  exact r
theorem iv_t3 {α : Type} {T : iv_Tr α 14} {f i : Nat} {q : α} (h : (bif Nat.ble 512 i then none else bif Nat.ble 16 f then none else iv_tl 14 T (1024 * f + i)) = some q) : iv_tl 14 T (1024 * f + i) = some q := (iv_bif (iv_bif h).2).2
/-- a method's code among the words: bytes compared as lists -/
def iv_atC (i : Nat) (y : MethodName) (b : ByteArray) (mx : Nat) (rt : Option FieldType) : Bool := match iv_bl 11 lw_tbl i with
  | some (.code y' b' mx' rt') => decide (y' = y) && decide (b'.data.toList = b.data.toList) && Nat.beq mx' mx && decide (rt' = rt)
  | _ => false
theorem iv_atC_s {i : Nat} {y : MethodName} {b : ByteArray} {mx : Nat} {rt : Option FieldType} (h : iv_atC i y b mx rt = true) : Cond.code y b mx rt ∈ iv_Wd := by
  unfold iv_atC at h
  split at h
  · rename_i y' b' mx' rt' e
    simp only [Bool.and_eq_true, decide_eq_true_eq] at h
    obtain ⟨⟨⟨h1, h2⟩, h3⟩, h4⟩ := h
    have h3 := Nat.eq_of_beq_eq_true h3
    have h5 : b' = b := by
      obtain ⟨⟨l'⟩⟩ := b'
      obtain ⟨⟨l⟩⟩ := b
      have h6 : l' = l := h2
      rw [h6]
    subst h1 h3 h4 h5
    exact List.mem_filter.mpr ⟨iv_bl_s e, rfl⟩
  · cases h
def iv_wo (p : Option Nat) (w : Cond) : Bool := match p with
  | some i => iv_at i w
  | none => false
theorem iv_wo_s {p : Option Nat} {w : Cond} (h : iv_wo p w = true) : w ∈ iv_Wd := by
  unfold iv_wo at h
  split at h
  · exact iv_at_s h
  · cases h
theorem iv_fd_in {f i : Nat} {q : _} (h : iv_fd f i = some q) : f < 16 ∧ i < 512 := by
  unfold iv_fd at h
  have h1 := iv_bif h
  exact ⟨iv_blt (iv_bif h1.2).1, iv_blt h1.1⟩
theorem iv_nc_in {f i : Nat} {q : _} (h : iv_nc f i = some q) : f < 16 ∧ i < 512 := by
  unfold iv_nc at h
  have h1 := iv_bif h
  exact ⟨iv_blt (iv_bif h1.2).1, iv_blt h1.1⟩
theorem iv_ac_in {f i : Nat} {q : _} (h : iv_ac f i = some q) : f < 16 ∧ i < 512 := by
  unfold iv_ac at h
  have h1 := iv_bif h
  exact ⟨iv_blt (iv_bif h1.2).1, iv_blt h1.1⟩
theorem iv_mt_in {f i : Nat} {q : _} (h : iv_mt f i = some q) : f < 16 ∧ i < 512 := by
  unfold iv_mt at h
  have h1 := iv_bif h
  exact ⟨iv_blt (iv_bif h1.2).1, iv_blt h1.1⟩
theorem iv_lc_in {f i : Nat} {q : _} (h : iv_lc f i = some q) : f < 16 ∧ i < 512 := by
  unfold iv_lc at h
  have h1 := iv_bif h
  exact ⟨iv_blt (iv_bif h1.2).1, iv_blt h1.1⟩
theorem iv_l2_in {f i : Nat} {q : _} (h : iv_l2 f i = some q) : f < 16 ∧ i < 512 := by
  unfold iv_l2 at h
  have h1 := iv_bif h
  exact ⟨iv_blt (iv_bif h1.2).1, iv_blt h1.1⟩
theorem iv_oj_in {f i : Nat} {q : _} (h : iv_oj f i = some q) : f < 16 ∧ i < 512 := by
  unfold iv_oj at h
  have h1 := iv_bif h
  exact ⟨iv_blt (iv_bif h1.2).1, iv_blt h1.1⟩
theorem iv_mj_in {f i : Nat} {q : _} (h : iv_mj f i = some q) : f < 16 ∧ i < 512 := by
  unfold iv_mj at h
  have h1 := iv_bif h
  exact ⟨iv_blt (iv_bif h1.2).1, iv_blt h1.1⟩
theorem iv_mk_in {f i : Nat} {q : _} (h : iv_mk f i = some q) : f < 16 ∧ i < 512 := by
  unfold iv_mk at h
  have h1 := iv_bif h
  exact ⟨iv_blt (iv_bif h1.2).1, iv_blt h1.1⟩
theorem iv_absi_in {f i : Nat} {q : _} (h : iv_absi f i = some q) : f < 16 ∧ i < 512 := by
  unfold iv_absi at h
  have h1 := iv_bif h
  exact ⟨iv_blt (iv_bif h1.2).1, iv_blt h1.1⟩
theorem iv_absl_in {f i : Nat} {q : _} (h : iv_absl f i = some q) : f < 16 ∧ i < 512 := by
  unfold iv_absl at h
  have h1 := iv_bif h
  exact ⟨iv_blt (iv_bif h1.2).1, iv_blt h1.1⟩
theorem iv_cj_in {f i : Nat} {q : _} (h : iv_cj f i = some q) : f < 16 ∧ i < 512 := by
  unfold iv_cj at h
  have h1 := iv_bif h
  exact ⟨iv_blt (iv_bif h1.2).1, iv_blt h1.1⟩
def iv_ckF (f i : Nat) : Bool := match iv_fd f i with
  | none => true
  | some q => match iv_cl[q.1]? with
    | none => false
    | some c => decide (q.2 < c.2.2) && iv_wo (iv_fp f i) (.fieldLink (iv_cn f) i (c.2.1 q.2).1 (c.2.1 q.2).2.1 (c.2.1 q.2).2.2.1)
set_option maxRecDepth 1000000 in
theorem iv_ckF_all_fd : iv_tall 14 iv_fdT 0 (fun k => iv_ckF (k / 1024) (k % 1024)) = true := by decide +kernel
theorem iv_fF {f i : Nat} {q : Nat × Nat} (h : iv_fd f i = some q) : ∃ (C : String) (T : u_T) (N : Nat), iv_cl[q.1]? = some (C, T, N) ∧ q.2 < N ∧ Cond.fieldLink (iv_cn f) i (T q.2).1 (T q.2).2.1 (T q.2).2.2.1 ∈ iv_Wd := by
  obtain ⟨a1, a2⟩ := iv_fd_in h
  have a := iv_tls iv_ckF_all_fd a1 a2 (iv_t3 h)
  unfold iv_ckF at a
  rw [h] at a
  dsimp only at a
  split at a
  · cases a
  · rename_i c hc
    simp only [Bool.and_eq_true, decide_eq_true_eq] at a
    exact ⟨c.1, c.2.1, c.2.2, hc, a.1, iv_wo_s a.2⟩
def iv_ckN (f i : Nat) : Bool := match iv_nc f i with
  | none => true
  | some q => match iv_cl[q]? with
    | none => false
    | some c => iv_wo (iv_np f i) (.classLink (iv_cn f) i c.1)
set_option maxRecDepth 1000000 in
theorem iv_ckN_all_nc : iv_tall 14 iv_ncT 0 (fun k => iv_ckN (k / 1024) (k % 1024)) = true := by decide +kernel
theorem iv_fN {f i q : Nat} (h : iv_nc f i = some q) : ∃ (C : String) (T : u_T) (N : Nat), iv_cl[q]? = some (C, T, N) ∧ Cond.classLink (iv_cn f) i C ∈ iv_Wd := by
  obtain ⟨a1, a2⟩ := iv_nc_in h
  have a := iv_tls iv_ckN_all_nc a1 a2 (iv_t3 h)
  unfold iv_ckN at a
  rw [h] at a
  dsimp only at a
  split at a
  · cases a
  · rename_i c hc
    exact ⟨c.1, c.2.1, c.2.2, hc, iv_wo_s a⟩
def iv_ckQ (f i : Nat) : Bool := match iv_ac f i with
  | none => true
  | some q => match iv_ty[q]? with
    | some (.object C) => decide (C ∈ iv_ao) && iv_wo (iv_np f i) (.classLink (iv_cn f) i C)
    | _ => false
set_option maxRecDepth 1000000 in
theorem iv_ckQ_all_ac : iv_tall 14 iv_acT 0 (fun k => iv_ckQ (k / 1024) (k % 1024)) = true := by decide +kernel
theorem iv_fQ {f i t : Nat} (h : iv_ac f i = some t) : ∃ C : String, iv_ty[t]? = some (.object C) ∧ Cond.classLink (iv_cn f) i C ∈ iv_Wd ∧ C ∈ iv_ao := by
  obtain ⟨a1, a2⟩ := iv_ac_in h
  have a := iv_tls iv_ckQ_all_ac a1 a2 (iv_t3 h)
  unfold iv_ckQ at a
  rw [h] at a
  dsimp only at a
  split at a
  · rename_i C hc
    simp only [Bool.and_eq_true, decide_eq_true_eq] at a
    exact ⟨C, hc, iv_wo_s a.2, a.1⟩
  · cases a
def iv_ckL (f i : Nat) : Bool := (match iv_lc f i with
  | none => true
  | some v => iv_wo (iv_lp f i) (.constant (iv_cn f) i v)) && (match iv_l2 f i with
  | none => true
  | some v => iv_wo (iv_l2p f i) (.constantLong (iv_cn f) i v))
set_option maxRecDepth 1000000 in
theorem iv_ckL_all_lc : iv_tall 14 iv_lcT 0 (fun k => iv_ckL (k / 1024) (k % 1024)) = true := by decide +kernel
set_option maxRecDepth 1000000 in
theorem iv_ckL_all_l2 : iv_tall 14 iv_l2T 0 (fun k => iv_ckL (k / 1024) (k % 1024)) = true := by decide +kernel
theorem iv_fL {f i : Nat} {v : Int32} (h : iv_lc f i = some v) : Cond.constant (iv_cn f) i v ∈ iv_Wd := by
  obtain ⟨a1, a2⟩ := iv_lc_in h
  have a := iv_tls iv_ckL_all_lc a1 a2 (iv_t3 h)
  unfold iv_ckL at a
  rw [h] at a
  exact iv_wo_s (Bool.and_eq_true_iff.mp a).1
theorem iv_fL2 {f i : Nat} {v : Int64} (h : iv_l2 f i = some v) : Cond.constantLong (iv_cn f) i v ∈ iv_Wd := by
  obtain ⟨a1, a2⟩ := iv_l2_in h
  have a := iv_tls iv_ckL_all_l2 a1 a2 (iv_t3 h)
  unfold iv_ckL at a
  rw [h] at a
  exact iv_wo_s (Bool.and_eq_true_iff.mp a).2
def iv_ckO (f i : Nat) : Bool := (match iv_oj f i with
  | none => true
  | some _ => iv_wo (iv_op_ f i) (.methodLink (iv_cn f) i Lib.objectInit) && iv_wo (iv_xpos[0]?) (.instanceMethod Lib.objectInit) && iv_wo (iv_xpos[1]?) (.code Lib.objectInit ⟨#[0xb1]⟩ 1 none)) && (match iv_cj f i with
  | none => true
  | some _ => iv_wo (iv_cpp f i) (.methodLink (iv_cn f) i arraycopyName) && iv_wo (iv_xpos[2]?) (.native arraycopyName) && iv_wo (iv_xpos[3]?) (.static arraycopyName) && iv_wo (iv_xpos[4]?) (.initialized "java/lang/System"))
set_option maxRecDepth 1000000 in
theorem iv_ckO_all_oj : iv_tall 14 iv_ojT 0 (fun k => iv_ckO (k / 1024) (k % 1024)) = true := by decide +kernel
set_option maxRecDepth 1000000 in
theorem iv_ckO_all_cj : iv_tall 14 iv_cjT 0 (fun k => iv_ckO (k / 1024) (k % 1024)) = true := by decide +kernel
theorem iv_fO {f i : Nat} (h : iv_oi f i = true) : Cond.methodLink (iv_cn f) i Lib.objectInit ∈ iv_Wd ∧ Cond.instanceMethod Lib.objectInit ∈ iv_Wd ∧ Cond.code Lib.objectInit ⟨#[0xb1]⟩ 1 none ∈ iv_Wd := by
  obtain ⟨v, hv⟩ := Option.isSome_iff_exists.mp h
  obtain ⟨a1, a2⟩ := iv_oj_in hv
  have a := iv_tls iv_ckO_all_oj a1 a2 (iv_t3 hv)
  unfold iv_ckO at a
  rw [hv] at a
  have b := (Bool.and_eq_true_iff.mp a).1
  simp only [Bool.and_eq_true] at b
  exact ⟨iv_wo_s b.1.1, iv_wo_s b.1.2, iv_wo_s b.2⟩
theorem iv_fY {f i : Nat} (h : iv_cp f i = true) : Cond.methodLink (iv_cn f) i arraycopyName ∈ iv_Wd ∧ Cond.native arraycopyName ∈ iv_Wd ∧ Cond.static arraycopyName ∈ iv_Wd ∧ Cond.initialized "java/lang/System" ∈ iv_Wd := by
  obtain ⟨v, hv⟩ := Option.isSome_iff_exists.mp h
  obtain ⟨a1, a2⟩ := iv_cj_in hv
  have a := iv_tls iv_ckO_all_cj a1 a2 (iv_t3 hv)
  unfold iv_ckO at a
  rw [hv] at a
  have b := (Bool.and_eq_true_iff.mp a).2
  simp only [Bool.and_eq_true] at b
  exact ⟨iv_wo_s b.1.1.1, iv_wo_s b.1.1.2, iv_wo_s b.1.2, iv_wo_s b.2⟩
def iv_ckY (f i : Nat) : Bool := match iv_mj f i with
  | none => true
  | some _ => iv_wo (iv_mmp f i) (.methodLink (iv_cn f) i Lib.Math.min.name) && iv_wo (iv_xpos[5]?) (.static Lib.Math.min.name) && iv_wo (iv_xpos[6]?) (.initialized "java/lang/Math") && iv_wo (iv_xpos[7]?) (.code Lib.Math.min.name Lib.Math.min.code 2 (some .int))
set_option maxRecDepth 1000000 in
theorem iv_ckY_all_mj : iv_tall 14 iv_mjT 0 (fun k => iv_ckY (k / 1024) (k % 1024)) = true := by decide +kernel
theorem iv_fMm {f i : Nat} (h : iv_mm f i = true) : Cond.methodLink (iv_cn f) i Lib.Math.min.name ∈ iv_Wd ∧ Cond.static Lib.Math.min.name ∈ iv_Wd ∧ Cond.initialized "java/lang/Math" ∈ iv_Wd ∧ Cond.code Lib.Math.min.name Lib.Math.min.code 2 (some .int) ∈ iv_Wd := by
  obtain ⟨v, hv⟩ := Option.isSome_iff_exists.mp h
  obtain ⟨a1, a2⟩ := iv_mj_in hv
  have a := iv_tls iv_ckY_all_mj a1 a2 (iv_t3 hv)
  unfold iv_ckY at a
  rw [hv] at a
  simp only [Bool.and_eq_true] at a
  exact ⟨iv_wo_s a.1.1.1, iv_wo_s a.1.1.2, iv_wo_s a.1.2, iv_wo_s a.2⟩
def iv_ckX2 (f i : Nat) : Bool := match iv_mk f i with
  | none => true
  | some _ => iv_wo (iv_map f i) (.methodLink (iv_cn f) i Lib.Math.max.name) && iv_wo (iv_xpos[8]?) (.static Lib.Math.max.name) && iv_wo (iv_xpos[6]?) (.initialized "java/lang/Math") && iv_wo (iv_xpos[9]?) (.code Lib.Math.max.name Lib.Math.max.code 2 (some .int))
set_option maxRecDepth 1000000 in
theorem iv_ckX2_all_mk : iv_tall 14 iv_mkT 0 (fun k => iv_ckX2 (k / 1024) (k % 1024)) = true := by decide +kernel
theorem iv_fMx {f i : Nat} (h : iv_ma f i = true) : Cond.methodLink (iv_cn f) i Lib.Math.max.name ∈ iv_Wd ∧ Cond.static Lib.Math.max.name ∈ iv_Wd ∧ Cond.initialized "java/lang/Math" ∈ iv_Wd ∧ Cond.code Lib.Math.max.name Lib.Math.max.code 2 (some .int) ∈ iv_Wd := by
  obtain ⟨v, hv⟩ := Option.isSome_iff_exists.mp h
  obtain ⟨a1, a2⟩ := iv_mk_in hv
  have a := iv_tls iv_ckX2_all_mk a1 a2 (iv_t3 hv)
  unfold iv_ckX2 at a
  rw [hv] at a
  simp only [Bool.and_eq_true] at a
  exact ⟨iv_wo_s a.1.1.1, iv_wo_s a.1.1.2, iv_wo_s a.1.2, iv_wo_s a.2⟩
def iv_ckX3 (f i : Nat) : Bool := match iv_absi f i with
  | none => true
  | some _ => iv_wo (iv_absip f i) (.methodLink (iv_cn f) i Lib.Math.abs.name) && iv_wo (iv_xpos[10]?) (.static Lib.Math.abs.name) && iv_wo (iv_xpos[6]?) (.initialized "java/lang/Math") && iv_wo (iv_xpos[11]?) (.code Lib.Math.abs.name Lib.Math.abs.code 1 (some .int))
set_option maxRecDepth 1000000 in
theorem iv_ckX3_all_absi : iv_tall 14 iv_absiT 0 (fun k => iv_ckX3 (k / 1024) (k % 1024)) = true := by decide +kernel
theorem iv_fAb {f i : Nat} (h : iv_ab f i = true) : Cond.methodLink (iv_cn f) i Lib.Math.abs.name ∈ iv_Wd ∧ Cond.static Lib.Math.abs.name ∈ iv_Wd ∧ Cond.initialized "java/lang/Math" ∈ iv_Wd ∧ Cond.code Lib.Math.abs.name Lib.Math.abs.code 1 (some .int) ∈ iv_Wd := by
  obtain ⟨v, hv⟩ := Option.isSome_iff_exists.mp h
  obtain ⟨a1, a2⟩ := iv_absi_in hv
  have a := iv_tls iv_ckX3_all_absi a1 a2 (iv_t3 hv)
  unfold iv_ckX3 at a
  rw [hv] at a
  simp only [Bool.and_eq_true] at a
  exact ⟨iv_wo_s a.1.1.1, iv_wo_s a.1.1.2, iv_wo_s a.1.2, iv_wo_s a.2⟩
def iv_ckX4 (f i : Nat) : Bool := match iv_absl f i with
  | none => true
  | some _ => iv_wo (iv_abslp f i) (.methodLink (iv_cn f) i Lib.MathLoose.abs_long.x) && iv_wo (iv_xpos[12]?) (.static Lib.MathLoose.abs_long.x) && iv_wo (iv_xpos[6]?) (.initialized "java/lang/Math") && iv_wo (iv_xpos[13]?) (.code Lib.MathLoose.abs_long.x Lib.MathLoose.abs_long.code 2 (some .long))
set_option maxRecDepth 1000000 in
theorem iv_ckX4_all_absl : iv_tall 14 iv_abslT 0 (fun k => iv_ckX4 (k / 1024) (k % 1024)) = true := by decide +kernel
theorem iv_fAl {f i : Nat} (h : iv_lb f i = true) : Cond.methodLink (iv_cn f) i Lib.MathLoose.abs_long.x ∈ iv_Wd ∧ Cond.static Lib.MathLoose.abs_long.x ∈ iv_Wd ∧ Cond.initialized "java/lang/Math" ∈ iv_Wd ∧ Cond.code Lib.MathLoose.abs_long.x Lib.MathLoose.abs_long.code 2 (some .long) ∈ iv_Wd := by
  obtain ⟨v, hv⟩ := Option.isSome_iff_exists.mp h
  obtain ⟨a1, a2⟩ := iv_absl_in hv
  have a := iv_tls iv_ckX4_all_absl a1 a2 (iv_t3 hv)
  unfold iv_ckX4 at a
  rw [hv] at a
  simp only [Bool.and_eq_true] at a
  exact ⟨iv_wo_s a.1.1.1, iv_wo_s a.1.1.2, iv_wo_s a.1.2, iv_wo_s a.2⟩
def iv_nrv (v : Value) : Bool := match v with
  | .ref _ => false
  | .retAddr _ => false
  | _ => true
def iv_ckC (c : Nat) : Bool := match iv_cl[c]? with
  | none => false
  | some r => Nat.beq (iv_df c).length r.2.2 && decide (r.1 = iv_cn (iv_ow c)) && iv_wo ((iv_cpos c)[0]?) (.instantiable r.1 r.2.2) && iv_wo ((iv_cpos c)[1]?) (.initialized r.1) && (iv_df c).all iv_nrv &&
    (List.range r.2.2).all (fun k => iv_wo ((iv_cpos c)[k + 2]?) (u_lay r.1 r.2.1 k) && decide (parseFieldDescriptor (r.2.1 k).2.2.1 = some (iv_ft c k)) && decide ((r.2.1 k).1 = r.1) && decide ((r.2.1 k).2.2.2 = iv_fi c k) && decide (defaultValue (iv_ft c k) = vp_V (iv_df c) k)) &&
    (List.range r.2.2).all (fun a => (List.range r.2.2).all (fun b => Nat.beq a b || decide ((r.2.1 a).2.1 ≠ (r.2.1 b).2.1)))
set_option maxRecDepth 1000000 in
theorem iv_ckC_all : (List.range iv_cl.length).all iv_ckC = true := by decide +kernel
theorem iv_fC {c : Nat} {C : String} {T : u_T} {N : Nat} (h : iv_cl[c]? = some (C, T, N)) : (∀ w ∈ u_ws C T N, w ∈ iv_Wd) ∧ (∀ k, k < N → parseFieldDescriptor (T k).2.2.1 = some (iv_ft c k)) ∧ (∀ a, a < N → ∀ b, b < N → a ≠ b → (T a).2.1 ≠ (T b).2.1) ∧ Cond.instantiable C N ∈ iv_Wd ∧ Cond.initialized C ∈ iv_Wd ∧ (iv_df c).length = N ∧ (∀ j, j < N → defaultValue (iv_ft c j) = vp_V (iv_df c) j) ∧ (∀ k, k < N → (T k).1 = C ∧ (T k).2.2.2 = iv_fi c k) ∧ C = iv_cn (iv_ow c) ∧ (∀ v ∈ iv_df c, iv_nrv v = true) := by
  have hl : c < iv_cl.length := (List.getElem?_eq_some_iff.mp h).1
  have a := List.all_eq_true.mp iv_ckC_all c (List.mem_range.mpr hl)
  unfold iv_ckC at a
  rw [h] at a
  dsimp only at a
  simp only [Bool.and_eq_true, decide_eq_true_eq] at a
  obtain ⟨⟨⟨⟨⟨⟨a1, a2⟩, a3⟩, a4⟩, a5⟩, a6⟩, a7⟩ := a
  have b := fun (k : Nat) (hk : k < N) => List.all_eq_true.mp a6 k (List.mem_range.mpr hk)
  simp only [Bool.and_eq_true, decide_eq_true_eq] at b
  refine ⟨fun w hw => ?_, fun k hk => (b k hk).1.1.1.2, fun x hx y hy hne => ?_, iv_wo_s a3, iv_wo_s a4, Nat.eq_of_beq_eq_true a1, fun j hj => (b j hj).2, fun k hk => ⟨(b k hk).1.1.2, (b k hk).1.2⟩, a2, fun v hv => List.all_eq_true.mp a5 v hv⟩
  · obtain ⟨k, hk, rfl⟩ := List.mem_map.mp hw
    exact iv_wo_s (b k (List.mem_range.mp hk)).1.1.1.1
  · have q := List.all_eq_true.mp (List.all_eq_true.mp a7 x (List.mem_range.mpr hx)) y (List.mem_range.mpr hy)
    simp only [Bool.or_eq_true, decide_eq_true_eq] at q
    rcases q with q | q
    · exact absurd (Nat.eq_of_beq_eq_true q) hne
    · exact q
def iv_ckM (i : Nat) : Bool := !iv_inc i || (iv_atC (iv_pc i) (iv_y i) (iv_by i) (iv_mx i) (iv_rt i) && iv_at (iv_pi_ i) (.initialized (iv_y i).cls) && plainName (iv_y i).cls && decide ((iv_y i).cls ≠ "java/lang/invoke/MethodHandle" ∧ (iv_y i).cls ≠ "java/lang/invoke/VarHandle") && decide ((parseMethodDescriptor (iv_y i).desc).map (fun d => d.parameters.length) = some (iv_na i)) && Nat.ble (iv_mx i) 21 && decide ((iv_y i).cls = iv_cn (iv_kf i)) && (match iv_rc i with
  | none => iv_at (iv_ps i) (.static (iv_y i)) && !(iv_ini i)
  | some c => iv_at (iv_ps i) (.instanceMethod (iv_y i)) && (match iv_cl[c]? with
    | some r => decide (r.1 = (iv_y i).cls)
    | none => false) && (bif iv_ini i then decide ((iv_y i).name = "<init>") && decide (iv_rt i = none) else iv_at (iv_pl i) (.selects (iv_y i).cls (iv_y i) (iv_y i)))))
end
section
set_option maxRecDepth 1000000 in
theorem iv_ckMA_0 : (List.range 236).all (fun i => !(Nat.beq (i / 10) 0) || iv_ckM i) = true := by decide +kernel
set_option maxRecDepth 1000000 in
theorem iv_ckMA_1 : (List.range 236).all (fun i => !(Nat.beq (i / 10) 1) || iv_ckM i) = true := by decide +kernel
set_option maxRecDepth 1000000 in
theorem iv_ckMA_2 : (List.range 236).all (fun i => !(Nat.beq (i / 10) 2) || iv_ckM i) = true := by decide +kernel
set_option maxRecDepth 1000000 in
theorem iv_ckMA_3 : (List.range 236).all (fun i => !(Nat.beq (i / 10) 3) || iv_ckM i) = true := by decide +kernel
set_option maxRecDepth 1000000 in
theorem iv_ckMA_4 : (List.range 236).all (fun i => !(Nat.beq (i / 10) 4) || iv_ckM i) = true := by decide +kernel
set_option maxRecDepth 1000000 in
theorem iv_ckMA_5 : (List.range 236).all (fun i => !(Nat.beq (i / 10) 5) || iv_ckM i) = true := by decide +kernel
set_option maxRecDepth 1000000 in
theorem iv_ckMA_6 : (List.range 236).all (fun i => !(Nat.beq (i / 10) 6) || iv_ckM i) = true := by decide +kernel
set_option maxRecDepth 1000000 in
theorem iv_ckMA_7 : (List.range 236).all (fun i => !(Nat.beq (i / 10) 7) || iv_ckM i) = true := by decide +kernel
end
section
set_option maxRecDepth 1000000 in
theorem iv_ckMA_8 : (List.range 236).all (fun i => !(Nat.beq (i / 10) 8) || iv_ckM i) = true := by decide +kernel
set_option maxRecDepth 1000000 in
theorem iv_ckMA_9 : (List.range 236).all (fun i => !(Nat.beq (i / 10) 9) || iv_ckM i) = true := by decide +kernel
set_option maxRecDepth 1000000 in
theorem iv_ckMA_10 : (List.range 236).all (fun i => !(Nat.beq (i / 10) 10) || iv_ckM i) = true := by decide +kernel
set_option maxRecDepth 1000000 in
theorem iv_ckMA_11 : (List.range 236).all (fun i => !(Nat.beq (i / 10) 11) || iv_ckM i) = true := by decide +kernel
end
section
set_option maxRecDepth 1000000 in
theorem iv_ckMA_12 : (List.range 236).all (fun i => !(Nat.beq (i / 10) 12) || iv_ckM i) = true := by decide +kernel
set_option maxRecDepth 1000000 in
theorem iv_ckMA_13 : (List.range 236).all (fun i => !(Nat.beq (i / 10) 13) || iv_ckM i) = true := by decide +kernel
set_option maxRecDepth 1000000 in
theorem iv_ckMA_14 : (List.range 236).all (fun i => !(Nat.beq (i / 10) 14) || iv_ckM i) = true := by decide +kernel
set_option maxRecDepth 1000000 in
theorem iv_ckMA_15 : (List.range 236).all (fun i => !(Nat.beq (i / 10) 15) || iv_ckM i) = true := by decide +kernel
end
section
set_option maxRecDepth 1000000 in
theorem iv_ckMA_16 : (List.range 236).all (fun i => !(Nat.beq (i / 10) 16) || iv_ckM i) = true := by decide +kernel
set_option maxRecDepth 1000000 in
theorem iv_ckMA_17 : (List.range 236).all (fun i => !(Nat.beq (i / 10) 17) || iv_ckM i) = true := by decide +kernel
set_option maxRecDepth 1000000 in
theorem iv_ckMA_18 : (List.range 236).all (fun i => !(Nat.beq (i / 10) 18) || iv_ckM i) = true := by decide +kernel
set_option maxRecDepth 1000000 in
theorem iv_ckMA_19 : (List.range 236).all (fun i => !(Nat.beq (i / 10) 19) || iv_ckM i) = true := by decide +kernel
end
section
set_option maxRecDepth 1000000 in
theorem iv_ckMA_20 : (List.range 236).all (fun i => !(Nat.beq (i / 10) 20) || iv_ckM i) = true := by decide +kernel
set_option maxRecDepth 1000000 in
theorem iv_ckMA_21 : (List.range 236).all (fun i => !(Nat.beq (i / 10) 21) || iv_ckM i) = true := by decide +kernel
set_option maxRecDepth 1000000 in
theorem iv_ckMA_22 : (List.range 236).all (fun i => !(Nat.beq (i / 10) 22) || iv_ckM i) = true := by decide +kernel
set_option maxRecDepth 1000000 in
theorem iv_ckMA_23 : (List.range 236).all (fun i => !(Nat.beq (i / 10) 23) || iv_ckM i) = true := by decide +kernel
end
section
theorem iv_ckM_all (i : Nat) (h : i < 236) : iv_ckM i = true := by
  have hk : i / 10 = 0 ∨ i / 10 = 1 ∨ i / 10 = 2 ∨ i / 10 = 3 ∨ i / 10 = 4 ∨ i / 10 = 5 ∨ i / 10 = 6 ∨ i / 10 = 7 ∨ i / 10 = 8 ∨ i / 10 = 9 ∨ i / 10 = 10 ∨ i / 10 = 11 ∨ i / 10 = 12 ∨ i / 10 = 13 ∨ i / 10 = 14 ∨ i / 10 = 15 ∨ i / 10 = 16 ∨ i / 10 = 17 ∨ i / 10 = 18 ∨ i / 10 = 19 ∨ i / 10 = 20 ∨ i / 10 = 21 ∨ i / 10 = 22 ∨ i / 10 = 23 := by omega
  rcases hk with e | e | e | e | e | e | e | e | e | e | e | e | e | e | e | e | e | e | e | e | e | e | e | e
  · have a := List.all_eq_true.mp iv_ckMA_0 i (List.mem_range.mpr h)
    rw [e] at a
    exact a
  · have a := List.all_eq_true.mp iv_ckMA_1 i (List.mem_range.mpr h)
    rw [e] at a
    exact a
  · have a := List.all_eq_true.mp iv_ckMA_2 i (List.mem_range.mpr h)
    rw [e] at a
    exact a
  · have a := List.all_eq_true.mp iv_ckMA_3 i (List.mem_range.mpr h)
    rw [e] at a
    exact a
  · have a := List.all_eq_true.mp iv_ckMA_4 i (List.mem_range.mpr h)
    rw [e] at a
    exact a
  · have a := List.all_eq_true.mp iv_ckMA_5 i (List.mem_range.mpr h)
    rw [e] at a
    exact a
  · have a := List.all_eq_true.mp iv_ckMA_6 i (List.mem_range.mpr h)
    rw [e] at a
    exact a
  · have a := List.all_eq_true.mp iv_ckMA_7 i (List.mem_range.mpr h)
    rw [e] at a
    exact a
  · have a := List.all_eq_true.mp iv_ckMA_8 i (List.mem_range.mpr h)
    rw [e] at a
    exact a
  · have a := List.all_eq_true.mp iv_ckMA_9 i (List.mem_range.mpr h)
    rw [e] at a
    exact a
  · have a := List.all_eq_true.mp iv_ckMA_10 i (List.mem_range.mpr h)
    rw [e] at a
    exact a
  · have a := List.all_eq_true.mp iv_ckMA_11 i (List.mem_range.mpr h)
    rw [e] at a
    exact a
  · have a := List.all_eq_true.mp iv_ckMA_12 i (List.mem_range.mpr h)
    rw [e] at a
    exact a
  · have a := List.all_eq_true.mp iv_ckMA_13 i (List.mem_range.mpr h)
    rw [e] at a
    exact a
  · have a := List.all_eq_true.mp iv_ckMA_14 i (List.mem_range.mpr h)
    rw [e] at a
    exact a
  · have a := List.all_eq_true.mp iv_ckMA_15 i (List.mem_range.mpr h)
    rw [e] at a
    exact a
  · have a := List.all_eq_true.mp iv_ckMA_16 i (List.mem_range.mpr h)
    rw [e] at a
    exact a
  · have a := List.all_eq_true.mp iv_ckMA_17 i (List.mem_range.mpr h)
    rw [e] at a
    exact a
  · have a := List.all_eq_true.mp iv_ckMA_18 i (List.mem_range.mpr h)
    rw [e] at a
    exact a
  · have a := List.all_eq_true.mp iv_ckMA_19 i (List.mem_range.mpr h)
    rw [e] at a
    exact a
  · have a := List.all_eq_true.mp iv_ckMA_20 i (List.mem_range.mpr h)
    rw [e] at a
    exact a
  · have a := List.all_eq_true.mp iv_ckMA_21 i (List.mem_range.mpr h)
    rw [e] at a
    exact a
  · have a := List.all_eq_true.mp iv_ckMA_22 i (List.mem_range.mpr h)
    rw [e] at a
    exact a
  · have a := List.all_eq_true.mp iv_ckMA_23 i (List.mem_range.mpr h)
    rw [e] at a
    exact a
theorem iv_fM {i : Nat} (h : i < 236) (hi : iv_inc i = true) : Cond.code (iv_y i) (iv_by i) (iv_mx i) (iv_rt i) ∈ iv_Wd ∧ Cond.initialized (iv_y i).cls ∈ iv_Wd ∧ plainName (iv_y i).cls = true ∧ ((iv_y i).cls ≠ "java/lang/invoke/MethodHandle" ∧ (iv_y i).cls ≠ "java/lang/invoke/VarHandle" ∧ (parseMethodDescriptor (iv_y i).desc).map (fun d => d.parameters.length) = some (iv_na i)) ∧ iv_mx i ≤ 21 ∧ (iv_y i).cls = iv_cn (iv_kf i) ∧ (iv_rc i = none → Cond.static (iv_y i) ∈ iv_Wd ∧ iv_ini i = false) ∧ (∀ c, iv_rc i = some c → Cond.instanceMethod (iv_y i) ∈ iv_Wd ∧ (∃ (T : u_T) (N : Nat), iv_cl[c]? = some ((iv_y i).cls, T, N)) ∧ (iv_ini i = true → (iv_y i).name = "<init>" ∧ iv_rt i = none) ∧ (iv_ini i = false → Cond.selects (iv_y i).cls (iv_y i) (iv_y i) ∈ iv_Wd)) := by
  have a := iv_ckM_all i h
  unfold iv_ckM at a
  rw [hi] at a
  simp only [Bool.not_true, Bool.false_or, Bool.and_eq_true, decide_eq_true_eq] at a
  obtain ⟨⟨⟨⟨⟨⟨⟨a1, a2⟩, a3⟩, a4⟩, a5⟩, a6⟩, a7⟩, a8⟩ := a
  refine ⟨iv_atC_s a1, iv_at_s a2, a3, ⟨a4.1, a4.2, a5⟩, Nat.le_of_ble_eq_true a6, a7, fun hc => ?_, fun c hc => ?_⟩
  · rw [hc] at a8
    simp only [Bool.and_eq_true, Bool.not_eq_true'] at a8
    exact ⟨iv_at_s a8.1, a8.2⟩
  · rw [hc] at a8
    simp only [Bool.and_eq_true] at a8
    obtain ⟨⟨b1, b2⟩, b3⟩ := a8
    refine ⟨iv_at_s b1, ?_, fun hi => ?_, fun hi => ?_⟩
    · split at b2
      · rename_i r hr
        have e := of_decide_eq_true b2
        exact ⟨r.2.1, r.2.2, by rw [hr, ← e]⟩
      · cases b2
    · rw [hi] at b3
      have b3 := Bool.and_eq_true_iff.mp (show (_ && _) = true from b3)
      exact ⟨of_decide_eq_true b3.1, of_decide_eq_true b3.2⟩
    · rw [hi] at b3
      exact iv_at_s b3
def iv_ckT (f i : Nat) : Bool := match iv_mt f i with
  | none => true
  | some j => (Nat.ble (j + 1) 236 && iv_inc j) && (match iv_nn f i with
    | none => iv_wo (iv_mp f i) (.methodLink (iv_cn f) i (iv_y j))
    | some h => decide ((iv_cn f, i, iv_y j, h) ∈ iv_nw))
set_option maxRecDepth 1000000 in
theorem iv_ckT_all_mt : iv_tall 14 iv_mtT 0 (fun k => iv_ckT (k / 1024) (k % 1024)) = true := by decide +kernel
theorem iv_fT {f i j : Nat} (h : iv_mt f i = some j) : (j < 236 ∧ iv_inc j = true) ∧ (iv_nn f i = none → Cond.methodLink (iv_cn f) i (iv_y j) ∈ iv_Wd) ∧ (∀ x, iv_nn f i = some x → (iv_cn f, i, iv_y j, x) ∈ iv_nw) := by
  obtain ⟨a1, a2⟩ := iv_mt_in h
  have a := iv_tls iv_ckT_all_mt a1 a2 (iv_t3 h)
  unfold iv_ckT at a
  rw [h] at a
  dsimp only at a
  simp only [Bool.and_eq_true] at a
  refine ⟨⟨Nat.le_of_ble_eq_true a.1.1, a.1.2⟩, fun hn => ?_, fun x hx => ?_⟩
  · have b := a.2
    rw [hn] at b
    exact iv_wo_s b
  · have b := a.2
    rw [hx] at b
    exact of_decide_eq_true b
set_option maxRecDepth 1000000 in
theorem iv_ckA_all : iv_wo (iv_apos[0]?) (.arrayClass .int) = true ∧ iv_wo (iv_apos[1]?) (.arrayClass .long) = true ∧ iv_wo (iv_apos[2]?) (.arrayClass .boolean) = true ∧ iv_wo (iv_apos[3]?) (.arrayClass .byte) = true := by decide +kernel
theorem iv_nfw : nativeFrameWords "java/lang/System" "arraycopy" 5 + 11 + 8 ≤ 100 := by decide +kernel
set_option maxRecDepth 1000000 in
theorem iv_ckX : (iv_nw.all fun q => decide (Cond.methodLinkNest q.1 q.2.1 q.2.2.1 q.2.2.2 ∈ lw_tbl)) = true ∧ (iv_ao.all fun C => decide (Cond.arrayOver (.object C) ∈ lw_tbl)) = true := by decide +kernel
end
section
/-! THE WORDS of double constants and of the JDK's methods over doubles and floats -/
theorem id_lc_in {f i : Nat} {q : _} (h : id_lc f i = some q) : f < 16 ∧ i < 512 := by
  unfold id_lc at h
  have h1 := iv_bif h
  exact ⟨iv_blt (iv_bif h1.2).1, iv_blt h1.1⟩
theorem id_dj_in {f i : Nat} {q : _} (h : id_dj f i = some q) : f < 16 ∧ i < 512 := by
  unfold id_dj at h
  have h1 := iv_bif h
  exact ⟨iv_blt (iv_bif h1.2).1, iv_blt h1.1⟩
def id_ckL (f i : Nat) : Bool := match id_lc f i with
  | none => true
  | some v => iv_wo (id_lcp f i) (.constantDouble (iv_cn f) i v)
set_option maxRecDepth 1000000 in
theorem id_ckL_all_lc : iv_tall 14 id_lcT 0 (fun k => id_ckL (k / 1024) (k % 1024)) = true := by decide +kernel
theorem id_fL {f i : Nat} {v : UInt64} (h : id_lc f i = some v) : Cond.constantDouble (iv_cn f) i v ∈ iv_Wd := by
  obtain ⟨a1, a2⟩ := id_lc_in h
  have a := iv_tls id_ckL_all_lc a1 a2 (iv_t3 h)
  unfold id_ckL at a
  rw [h] at a
  exact iv_wo_s a
def id_jy (k : Nat) : MethodName := match k with
  | 1 => vd_dN
  | 2 => vd_fN
  | 3 => Jvm.Free.NT.mathAbs64N
  | _ => Jvm.Free.Hsc.MFloorA.yN
def id_ckJ (f i : Nat) : Bool := match id_dj f i with
  | none => true
  | some k => iv_wo (id_djp f i) (.methodLink (iv_cn f) i (id_jy k))
set_option maxRecDepth 1000000 in
theorem id_ckJ_all_dj : iv_tall 14 id_djT 0 (fun k => id_ckJ (k / 1024) (k % 1024)) = true := by decide +kernel
theorem id_fJ {f i k : Nat} (h : id_dj f i = some k) : Cond.methodLink (iv_cn f) i (id_jy k) ∈ iv_Wd := by
  obtain ⟨a1, a2⟩ := id_dj_in h
  have a := iv_tls id_ckJ_all_dj a1 a2 (iv_t3 h)
  unfold id_ckJ at a
  rw [h] at a
  exact iv_wo_s a
def id_fl : Nat → Cond → List Cond
  | n + 1, .and a b => id_fl n a ++ id_fl n b
  | _, c => [c]
theorem id_fl_s {args : Array Value} {s : State} : ∀ (n : Nat) (c : Cond), (∀ w ∈ id_fl n c, w.before args s = true) → c.before args s = true := by
  intro n
  induction n with
  | zero => intro c h; exact h c (by unfold id_fl; exact List.mem_singleton.mpr rfl)
  | succ n ih =>
    intro c h
    unfold id_fl at h
    split at h
    · rename_i a b e
      injection e with e
      subst e
      rw [Cond.before_and, Bool.and_eq_true]
      exact ⟨ih a fun w hw => h w (List.mem_append_left _ hw), ih b fun w hw => h w (List.mem_append_right _ hw)⟩
    · exact h _ (List.mem_singleton.mpr rfl)
def id_wo (w : Cond) : Bool := id_xs.any fun i => iv_at i w
theorem id_wo_s {w : Cond} (h : id_wo w = true) : w ∈ iv_Wd := by
  obtain ⟨i, _, hi⟩ := List.any_eq_true.mp h
  exact iv_at_s hi
set_option maxRecDepth 1000000 in
theorem id_ckD : (id_fl 60 (.and (.static vd_dN) (.and (.initialized "java/lang/Double") vd_dT))).all id_wo = true := by decide +kernel
set_option maxRecDepth 1000000 in
theorem id_ckF : (id_fl 60 (.and (.static vd_fN) (.and (.initialized "java/lang/Float") vd_fT))).all id_wo = true := by decide +kernel
set_option maxRecDepth 1000000 in
theorem id_ckA : (id_fl 60 (.and (.static Jvm.Free.NT.mathAbs64N) (.and (.initialized "java/lang/Math") (.code Jvm.Free.NT.mathAbs64N id_ab 2 (some .double))))).all id_wo = true := by decide +kernel
set_option maxRecDepth 1000000 in
theorem id_ckG : (id_fl 60 (.and (.static Jvm.Free.Hsc.MFloorA.yN) (.and (.initialized "java/lang/Math") Jvm.Free.Hsc.MFloorA.tab))).all id_wo = true := by decide +kernel
theorem id_w2 {a b c : Cond} {args : Array Value} {s : State} (h : (id_fl 60 (.and a (.and b c))).all id_wo = true) (hts : ∀ w ∈ iv_Wd, w.before args s = true) : a.before args s = true ∧ b.before args s = true ∧ c.before args s = true := by
  have g := id_fl_s (args := args) (s := s) 60 _ fun w hw => hts w (id_wo_s (List.all_eq_true.mp h w hw))
  rw [Cond.before_and, Bool.and_eq_true, Cond.before_and, Bool.and_eq_true] at g
  exact g
end
section
/-! WHAT A NUMBERED HEAP IS IN THE MACHINE: ad (some k) the address of cell k, ad none the script's -/
abbrev iv_A : Type := Option Nat → Nat
def iv_v (ad : iv_A) (v : Value) : Value := match v with
  | .ref k => .ref (ad (some k))
  | .retAddr _ => .ref (ad none)
  | w => w
def iv_a (ad : iv_A) (a : vp_A) : vp_A := match a with
  | (n, .inr (.inr (.inr (.inr f)))) => (n, .inr (.inr (.inr (.inr (fun j => (f j).map (fun k => ad (some k)))))))
  | (n, .inl f) => (n, .inl f)
  | (n, .inr (.inl f)) => (n, .inr (.inl f))
  | (n, .inr (.inr (.inl f))) => (n, .inr (.inr (.inl f)))
  | (n, .inr (.inr (.inr (.inl f)))) => (n, .inr (.inr (.inr (.inl f))))
def iv_e (ad : iv_A) (cO : Nat → ClassId) (c : iv_C) : va_E := match c with
  | .inl o => .inr (o.1, o.2.map (iv_v ad))
  | .inr a => .inl (cO a.1, iv_a ad a.2)
def iv_w (ad : iv_A) (cO : Nat → ClassId) (h : iv_H) : va_W := h.mapIdx (fun i c => (ad (some i), iv_e ad cO c))
def iv_ll (ad : iv_A) (al : iv_L) : List (Nat × Value) := al.zipIdx.filterMap fun q => q.1.map fun v => (q.2, iv_v ad v)
theorem iv_v_cat (ad : iv_A) (v : Value) : (iv_v ad v).category = v.category := by cases v <;> rfl
theorem iv_cats (ad : iv_A) (r : List Value) : ((r.map (iv_v ad)).map fun v => v.category) = r.map fun v => v.category := by
  rw [List.map_map]
  exact List.map_congr_left fun v _ => iv_v_cat ad v
theorem iv_w_get {ad : iv_A} {cO : Nat → ClassId} {h : iv_H} {k : Nat} {c : iv_C} (hk : h[k]? = some c) : (iv_w ad cO h)[k]? = some (ad (some k), iv_e ad cO c) := by
  unfold iv_w
  rw [List.getElem?_mapIdx, hk]
  rfl
theorem iv_w_len (ad : iv_A) (cO : Nat → ClassId) (h : iv_H) : (iv_w ad cO h).length = h.length := by simp [iv_w]
theorem iv_w_set (ad : iv_A) (cO : Nat → ClassId) (h : iv_H) (k : Nat) (c : iv_C) : (iv_w ad cO h).set k (ad (some k), iv_e ad cO c) = iv_w ad cO (h.set k c) := by
  apply List.ext_getElem?
  intro j
  unfold iv_w
  rw [List.getElem?_mapIdx, List.getElem?_set, List.getElem?_set, List.getElem?_mapIdx, List.length_mapIdx]
  by_cases hj : k = j
  · subst hj
    by_cases hl : k < h.length <;> simp [hl]
  · simp [hj]
theorem iv_ll_mem {ad : iv_A} {al : iv_L} {q : Nat × Value} : q ∈ iv_ll ad al ↔ ∃ v, al[q.1]? = some (some v) ∧ q.2 = iv_v ad v := by
  unfold iv_ll
  rw [List.mem_filterMap]
  constructor
  · rintro ⟨⟨o, i⟩, h1, h2⟩
    rw [List.mem_zipIdx_iff_getElem?] at h1
    cases o with
    | none => cases h2
    | some v =>
      cases h2
      exact ⟨v, h1, rfl⟩
  · rintro ⟨v, h1, h2⟩
    refine ⟨(some v, q.1), List.mem_zipIdx_iff_getElem?.mpr h1, ?_⟩
    show some (q.1, iv_v ad v) = some q
    rw [← h2]
theorem iv_lv {ad : iv_A} {al : iv_L} {ls : Array Slot} {nL i : Nat} {v : Value} (h : lv_has ls nL (iv_ll ad al)) (hi : al[i]? = some (some v)) : ls[i]? = some (.val (iv_v ad v)) := h.2.2 (i, iv_v ad v) (iv_ll_mem.mpr ⟨v, hi, rfl⟩)
theorem iv_lv_sub {ls : Array Slot} {nL : Nat} {l l' : List (Nat × Value)} (h : lv_has ls nL l) (hs : ∀ q, q ∈ l' → q ∈ l) : lv_has ls nL l' := ⟨h.1, h.2.1, fun q hq => h.2.2 q (hs q hq)⟩
theorem iv_k_get {al : iv_L} {i j : Nat} {w : Value} (h : (iv_k al i)[j]? = some (some w)) : al[j]? = some (some w) ∧ ¬ (j + 1 = i ∧ w.category = 2) := by
  cases i with
  | zero => exact ⟨h, fun q => by omega⟩
  | succ a =>
    unfold iv_k at h
    dsimp only at h
    split at h
    · rename_i w0 h0
      split at h
      · rename_i hc
        rw [List.getElem?_set] at h
        split at h
        · split at h
          · cases h
          · cases h
        · exact ⟨h, fun q => by omega⟩
      · rename_i hc
        refine ⟨h, fun q => ?_⟩
        obtain ⟨q1, q2⟩ := q
        have : j = a := by omega
        subst this
        rw [h0] at h
        cases h
        exact hc q2
    · rename_i hn
      refine ⟨h, fun q => ?_⟩
      obtain ⟨q1, q2⟩ := q
      have : j = a := by omega
      subst this
      exact hn w h
theorem iv_s1_lv {ad : iv_A} {al : iv_L} {ls : Array Slot} {nL i : Nat} {v : Value} (h : lv_has ls nL ((i, iv_v ad v) :: (iv_ll ad al).filter (fun q => !(q.1 == i) && !(q.1 + 1 == i && q.2.category == 2)))) : lv_has ls nL (iv_ll ad (iv_s1 al i v)) := by
  refine iv_lv_sub h fun q hq => ?_
  obtain ⟨w, h1, h2⟩ := iv_ll_mem.mp hq
  unfold iv_s1 at h1
  rw [List.getElem?_set] at h1
  obtain ⟨a, b⟩ := q
  dsimp only at h1 h2
  subst h2
  split at h1
  · rename_i e
    subst e
    split at h1
    · cases h1
      exact List.mem_cons_self
    · cases h1
  · rename_i e
    obtain ⟨g1, g2⟩ := iv_k_get h1
    refine List.mem_cons_of_mem _ (List.mem_filter.mpr ⟨iv_ll_mem.mpr ⟨w, g1, rfl⟩, ?_⟩)
    have e' : ¬ a = i := fun z => e z.symm
    simp only [iv_v_cat]
    by_cases hx : a + 1 = i
    · have : ¬ w.category = 2 := fun z => g2 ⟨hx, z⟩
      simp [e', this]
    · simp [e', hx]
theorem iv_s2_lv {ad : iv_A} {al : iv_L} {ls : Array Slot} {nL i : Nat} {v : Value} (h : lv_has ls nL ((i, iv_v ad v) :: (iv_ll ad al).filter (fun q => !(q.1 == i) && (!(q.1 == i + 1) && !(q.1 + 1 == i && q.2.category == 2))))) : lv_has ls nL (iv_ll ad (iv_s2 al i v)) := by
  refine iv_lv_sub h fun q hq => ?_
  obtain ⟨w, h1, h2⟩ := iv_ll_mem.mp hq
  unfold iv_s2 at h1
  rw [List.getElem?_set] at h1
  obtain ⟨a, b⟩ := q
  dsimp only at h1 h2
  subst h2
  split at h1
  · rename_i e
    subst e
    split at h1
    · cases h1
      exact List.mem_cons_self
    · cases h1
  · rename_i e
    rw [List.getElem?_set] at h1
    split at h1
    · split at h1 <;> cases h1
    · rename_i e2
      obtain ⟨g1, g2⟩ := iv_k_get h1
      refine List.mem_cons_of_mem _ (List.mem_filter.mpr ⟨iv_ll_mem.mpr ⟨w, g1, rfl⟩, ?_⟩)
      have e' : ¬ a = i := fun z => e z.symm
      have e3 : ¬ a = i + 1 := fun z => e2 z.symm
      simp only [iv_v_cat]
      by_cases hx : a + 1 = i
      · have : ¬ w.category = 2 := fun z => g2 ⟨hx, z⟩
        simp [e', e3, this]
      · simp [e', e3, hx]
/-- references are numbers of cells -/
def iv_g (n : Nat) (v : Value) : Prop := ∀ k, v = .ref k → k < n
def iv_gl (n : Nat) (st : List Value) : Prop := ∀ v ∈ st, iv_g n v
def iv_ga (n : Nat) (al : iv_L) : Prop := ∀ (i : Nat) (v : Value), al[i]? = some (some v) → iv_g n v
def iv_gc (n : Nat) (c : iv_C) : Prop := match c with
  | .inl o => iv_gl n o.2
  | .inr (_, _, .inr (.inr (.inr (.inr f)))) => ∀ j k, f j = some k → k < n
  | _ => True
def iv_gh (n : Nat) (h : iv_H) : Prop := ∀ (k : Nat) (c : iv_C), h[k]? = some c → iv_gc n c
theorem iv_g_i (n : Nat) (x : Int32) : iv_g n (.int x) := fun k h => by cases h
theorem iv_g_j (n : Nat) (x : Int64) : iv_g n (.long x) := fun k h => by cases h
theorem iv_g_d (n : Nat) (x : UInt64) : iv_g n (.double x) := fun k h => by cases h
theorem iv_g_f (n : Nat) (x : UInt32) : iv_g n (.float x) := fun k h => by cases h
theorem iv_g_a (n : Nat) (x : Nat) : iv_g n (.retAddr x) := fun k h => by cases h
theorem iv_g_r {n k : Nat} (h : k < n) : iv_g n (.ref k) := fun q e => by cases e; exact h
theorem iv_g_n (n : Nat) : iv_g n .null := fun k h => by cases h
theorem iv_g.mono {n m : Nat} {v : Value} (h : iv_g n v) (hm : n ≤ m) : iv_g m v := fun k e => Nat.lt_of_lt_of_le (h k e) hm
theorem iv_gl_nil (n : Nat) : iv_gl n [] := fun v h => by cases h
theorem iv_gl.cons {n : Nat} {v : Value} {r : List Value} (h1 : iv_g n v) (h2 : iv_gl n r) : iv_gl n (v :: r) := fun w hw => by
  rcases List.mem_cons.mp hw with rfl | h
  · exact h1
  · exact h2 w h
theorem iv_gl.hd {n : Nat} {v : Value} {r : List Value} (h : iv_gl n (v :: r)) : iv_g n v := h v List.mem_cons_self
theorem iv_gl.tl {n : Nat} {v : Value} {r : List Value} (h : iv_gl n (v :: r)) : iv_gl n r := fun w hw => h w (List.mem_cons_of_mem _ hw)
theorem iv_gl.mono {n m : Nat} {st : List Value} (h : iv_gl n st) (hm : n ≤ m) : iv_gl m st := fun v hv => (h v hv).mono hm
theorem iv_ga.mono {n m : Nat} {al : iv_L} (h : iv_ga n al) (hm : n ≤ m) : iv_ga m al := fun i v hv => (h i v hv).mono hm
theorem iv_gc.mono {n m : Nat} {c : iv_C} (h : iv_gc n c) (hm : n ≤ m) : iv_gc m c := by
  unfold iv_gc at h ⊢
  split
  · exact iv_gl.mono h hm
  · exact fun j k e => Nat.lt_of_lt_of_le (h j k e) hm
  · trivial
theorem iv_gh.mono {n m : Nat} {h : iv_H} (g : iv_gh n h) (hm : n ≤ m) : iv_gh m h := fun k c e => (g k c e).mono hm
theorem iv_ga_s1 {n i : Nat} {al : iv_L} {v : Value} (h : iv_ga n al) (hv : iv_g n v) : iv_ga n (iv_s1 al i v) := fun j w hw => by
  unfold iv_s1 at hw
  rw [List.getElem?_set] at hw
  split at hw
  · split at hw
    · cases hw; exact hv
    · cases hw
  · exact h j w (iv_k_get hw).1
theorem iv_ga_s2 {n i : Nat} {al : iv_L} {v : Value} (h : iv_ga n al) (hv : iv_g n v) : iv_ga n (iv_s2 al i v) := fun j w hw => by
  unfold iv_s2 at hw
  rw [List.getElem?_set] at hw
  split at hw
  · split at hw
    · cases hw; exact hv
    · cases hw
  · rw [List.getElem?_set] at hw
    split at hw
    · split at hw <;> cases hw
    · exact h j w (iv_k_get hw).1
/-- addresses that agree on the first n cells -/
def iv_ag (n : Nat) (ad ad' : iv_A) : Prop := ad' none = ad none ∧ ∀ k, k < n → ad' (some k) = ad (some k)
theorem iv_ag.rf {n : Nat} {ad : iv_A} : iv_ag n ad ad := ⟨rfl, fun _ _ => rfl⟩
theorem iv_ag.tr {n m : Nat} {a b c : iv_A} (h1 : iv_ag n a b) (h2 : iv_ag m b c) (hm : n ≤ m) : iv_ag n a c := ⟨h2.1.trans h1.1, fun k hk => (h2.2 k (by omega)).trans (h1.2 k hk)⟩
theorem iv_v_ag {n : Nat} {ad ad' : iv_A} (h : iv_ag n ad ad') {v : Value} (g : iv_g n v) : iv_v ad' v = iv_v ad v := by
  cases v with
  | ref k => show Value.ref _ = Value.ref _; rw [h.2 k (g k rfl)]
  | retAddr k => show Value.ref _ = Value.ref _; rw [h.1]
  | _ => rfl
theorem iv_st_ag {n : Nat} {ad ad' : iv_A} (h : iv_ag n ad ad') {st : List Value} (g : iv_gl n st) : st.map (iv_v ad') = st.map (iv_v ad) := List.map_congr_left fun v hv => iv_v_ag h (g v hv)
theorem iv_ll_ag {n : Nat} {ad ad' : iv_A} (h : iv_ag n ad ad') {al : iv_L} (g : iv_ga n al) {ls : Array Slot} {nL : Nat} (hl : lv_has ls nL (iv_ll ad al)) : lv_has ls nL (iv_ll ad' al) := iv_lv_sub hl fun q hq => by
  obtain ⟨v, h1, h2⟩ := iv_ll_mem.mp hq
  exact iv_ll_mem.mpr ⟨v, h1, by rw [h2, iv_v_ag h (g _ v h1)]⟩
theorem iv_e_ag {n : Nat} {ad ad' : iv_A} (h : iv_ag n ad ad') {cO : Nat → ClassId} {c : iv_C} (g : iv_gc n c) : iv_e ad' cO c = iv_e ad cO c := by
  obtain o | ⟨t, m, f | f | f | f | f⟩ := c
  · show Sum.inr (o.1, o.2.map (iv_v ad')) = Sum.inr (o.1, o.2.map (iv_v ad))
    rw [iv_st_ag h g]
  · rfl
  · rfl
  · rfl
  · rfl
  · have e : (fun j => (f j).map (fun k => ad' (some k))) = (fun j => (f j).map (fun k => ad (some k))) := by
      funext j
      cases hj : f j with
      | none => rfl
      | some k => show some (ad' (some k)) = some (ad (some k)); rw [h.2 k (g j k hj)]
    show Sum.inl (cO t, (m, Sum.inr (Sum.inr (Sum.inr (Sum.inr (fun j => (f j).map (fun k => ad' (some k)))))))) = Sum.inl (cO t, (m, Sum.inr (Sum.inr (Sum.inr (Sum.inr (fun j => (f j).map (fun k => ad (some k))))))))
    rw [e]
theorem iv_w_ag {ad ad' : iv_A} {h : iv_H} (ha : iv_ag h.length ad ad') {cO : Nat → ClassId} (g : iv_gh h.length h) : iv_w ad' cO h = iv_w ad cO h := by
  apply List.ext_getElem?
  intro j
  unfold iv_w
  rw [List.getElem?_mapIdx, List.getElem?_mapIdx]
  cases hj : h[j]? with
  | none => rfl
  | some c =>
    show some (ad' (some j), iv_e ad' cO c) = some (ad (some j), iv_e ad cO c)
    rw [ha.2 j (List.getElem?_eq_some_iff.mp hj).1, iv_e_ag ha (g j c hj)]
/-- one cell more, at the address q -/
def iv_up (ad : iv_A) (n q : Nat) : iv_A := fun o => if o = some n then q else ad o
theorem iv_up_ag (ad : iv_A) (n q : Nat) : iv_ag n ad (iv_up ad n q) := ⟨by simp [iv_up], fun k hk => by
  have : ¬ k = n := by omega
  simp [iv_up, this]⟩
theorem iv_w_push {ad : iv_A} {cO : Nat → ClassId} {h : iv_H} (g : iv_gh h.length h) {c : iv_C} (gc : iv_gc h.length c) (q : Nat) : iv_w ad cO h ++ [(q, iv_e ad cO c)] = iv_w (iv_up ad h.length q) cO (h ++ [c]) := by
  have ha := iv_up_ag ad h.length q
  have e1 : iv_w (iv_up ad h.length q) cO (h ++ [c]) = iv_w (iv_up ad h.length q) cO h ++ [(iv_up ad h.length q (some h.length), iv_e (iv_up ad h.length q) cO c)] := by
    unfold iv_w
    rw [List.mapIdx_append]
    simp
  rw [e1, iv_w_ag ha g, iv_e_ag ha gc]
  simp [iv_up]
theorem iv_sz_set {h : iv_H} {k : Nat} {c : iv_C} (e : (h[k]?).map iv_cz = some (iv_cz c)) : iv_sz (h.set k c) = iv_sz h := by
  induction h generalizing k with
  | nil => rfl
  | cons a h ih =>
    cases k with
    | zero =>
      have e' : iv_cz a = iv_cz c := by simpa using e
      show iv_cz c + iv_sz h = iv_cz a + iv_sz h
      rw [e']
    | succ k =>
      show iv_cz a + iv_sz (h.set k c) = iv_cz a + iv_sz h
      rw [ih (by simpa using e)]
theorem iv_sz_app (h : iv_H) (c : iv_C) : iv_sz (h ++ [c]) = iv_sz h + iv_cz c := by
  induction h with
  | nil => show iv_cz c + 0 = 0 + iv_cz c; omega
  | cons a h ih =>
    show iv_cz a + iv_sz (h ++ [c]) = iv_cz a + iv_sz h + iv_cz c
    rw [ih]; omega
theorem iv_ef_le {h h' : iv_H} {f : iv_F} (e : iv_ef h f = some h') : h.length ≤ h'.length ∧ iv_sz h ≤ iv_sz h' := by
  unfold iv_ef at e
  split at e
  · cases e; exact ⟨Nat.le_refl _, Nat.le_refl _⟩
  · cases e
    rw [iv_sz_app, List.length_append]
    exact ⟨by omega, by omega⟩
  · split at e
    · cases e
      rw [iv_sz_set (by assumption), List.length_set]
      exact ⟨Nat.le_refl _, Nat.le_refl _⟩
    · cases e
theorem iv_run_le : ∀ (n : Nat) (z : iv_Z) (d mi : Nat) (S : iv_S) (r : Option Value × iv_H), iv_run z n d mi S = some r → S.2.2.2.length ≤ r.2.length ∧ iv_sz S.2.2.2 ≤ iv_sz r.2 := by
  intro n
  induction n with
  | zero => intro z d mi S r h; cases h
  | succ n ih =>
    intro z d mi S r h
    unfold iv_run at h
    split at h
    · cases h
    · split at h
      · obtain ⟨v, h1, h2⟩ := Option.map_eq_some_iff.mp h
        subst h2
        exact ⟨Nat.le_refl _, Nat.le_refl _⟩
      · split at h
        · split at h
          · cases h
          · split at h
            · cases h
            · rename_i q hq
              have a := ih _ _ _ _ _ hq
              have b := ih _ _ _ _ _ h
              exact ⟨Nat.le_trans a.1 b.1, Nat.le_trans a.2 b.2⟩
        · split at h
          · cases h
          · split at h
            · cases h
            · rename_i h' he
              have a := iv_ef_le he
              have b := ih _ _ _ _ _ h
              exact ⟨Nat.le_trans a.1 b.1, Nat.le_trans a.2 b.2⟩
end
section
/-! ONE INSTRUCTION: what the interpreter does, the machine does -/
theorem iv_fA {a : Jvm.ClassFile.ArrayType} (h : iv_tn a < 4) : Cond.arrayClass (newarray.typeOf a) ∈ iv_Wd ∧ iv_ty[iv_tn a]? = some (newarray.typeOf a) ∧ (∀ (n : Nat) (cA : ClassId), vp_cell cA (iv_a0 (iv_tn a) n) = arrV cA n (fun _ => defaultValue (newarray.typeOf a))) ∧ (∀ n : Nat, n ≤ 60000000 → n * componentBytes (newarray.typeOf a) ≤ 536870912) := by
  obtain ⟨w1, w2, w3, w4⟩ := iv_ckA_all
  cases a with
  | int => exact ⟨iv_wo_s w1, rfl, fun n cA => rfl, fun n hn => by show n * 4 ≤ _; omega⟩
  | long => exact ⟨iv_wo_s w2, rfl, fun n cA => rfl, fun n hn => by show n * 8 ≤ _; omega⟩
  | boolean => exact ⟨iv_wo_s w3, rfl, fun n cA => rfl, fun n hn => by show n * 1 ≤ _; omega⟩
  | byte => exact ⟨iv_wo_s w4, rfl, fun n cA => rfl, fun n hn => by show n * 1 ≤ _; omega⟩
  | _ => exact absurd h (by decide)
theorem iv_df_v {v : Value} (h : iv_nrv v = true) (ad : iv_A) : iv_v ad v = v := by cases v <;> first | rfl | cases h
theorem iv_df_r {v : Value} (h : iv_nrv v = true) (k : Nat) : v ≠ .ref k := by rintro rfl; cases h
def iv_tys (cO : Nat → ClassId) : List (ClassId × FieldType) := iv_ty.mapIdx (fun i ty => (cO i, ty))
theorem iv_tys_get {cO : Nat → ClassId} {t : Nat} {ty : FieldType} (h : iv_ty[t]? = some ty) : (iv_tys cO)[t]? = some (cO t, ty) := by
  unfold iv_tys
  rw [List.getElem?_mapIdx, h]
  rfl
def iv_K (D : va_G) (cO : Nat → ClassId) (U : State) : Prop := va_K D iv_cl (iv_tys cO) U ∧ (∀ C ∈ iv_ao, va_AO C U) ∧ ∀ q ∈ iv_nw, va_Nw (.methodLinkNest q.1 q.2.1 q.2.2.1 q.2.2.2) U
theorem iv_K.warm {D : va_G} {cO : Nat → ClassId} {s U : State} (hW : s.WarmedH U.vm) (h : iv_K D cO s) : iv_K D cO U := ⟨va_K.moved hW.alike h.1, fun C hC => (h.2.1 C hC).moved hW.alike, fun q hq => va_Nw.warmM hW (h.2.2 q hq)⟩
theorem iv_K.blind {D : va_G} {cO : Nat → ClassId} {a : Array Value} {U : State} {g : JFrame} {mk : MethodId} (h : iv_K D cO U) : iv_K D cO (U.calling g mk a) := ⟨va_K.moved (u := U) (U := U.calling g mk a) (Vm.Alike.refl U.vm) h.1, fun C hC => va_AO.moved (u := U) (U := U.calling g mk a) (Vm.Alike.refl U.vm) (h.2.1 C hC), fun q hq => va_Nw.same (U := U.calling g mk a) rfl rfl (h.2.2 q hq)⟩
theorem iv_RA_one {U : State} {c1 c2 : ClassId} {ty : FieldType} (h1 : va_RA U c1 ty) (h2 : va_RA U c2 ty) : c1 = c2 := by
  cases ty with
  | object C =>
    obtain ⟨_, _, _, _, _, a⟩ := h1
    obtain ⟨_, _, _, _, _, b⟩ := h2
    exact Option.some.inj (a.symm.trans b)
  | _ => exact Option.some.inj ((show U.vm.findClass _ = some c1 from h1).symm.trans h2)
theorem iv_K_new {D : va_G} {cO : Nat → ClassId} {U : State} {cA : ClassId} {t : Nat} {ty : FieldType} (h : iv_K D cO U) (ht : iv_ty[t]? = some ty) (h2 : va_K D iv_cl (iv_tys cO ++ [(cA, ty)]) U) : cA = cO t := by
  have a := (h.1.2 t _ (iv_tys_get ht)).2
  have b := (h2.2 (iv_tys cO).length (cA, ty) (by simp)).2
  exact (iv_RA_one a b).symm
theorem iv_ok_nf {ty : FieldType} {v : Value} (h : iv_ok ty v = true) (ad : iv_A) : narrow ty (iv_v ad v) = iv_v ad v ∧ fits ty (iv_v ad v) = true := by
  unfold iv_ok at h
  split at h
  · exact ⟨rfl, rfl⟩
  · exact ⟨rfl, rfl⟩
  · simp only [Bool.or_eq_true, decide_eq_true_eq] at h
    rcases h with rfl | rfl <;> exact ⟨rfl, rfl⟩
  · exact ⟨rfl, rfl⟩
  · exact ⟨rfl, rfl⟩
  · cases h
/-- the method's own facts -/
def iv_X (D : va_G) (cO : Nat → ClassId) (p : Program) (s : State) (m : MethodId) (args : Array Value) (meth : Method) (c : Code) (mi : Nat) : Prop :=
  p.tables.exec = Jvm.exec ∧ c.code = iv_by mi ∧ c.maxLocals = iv_mx mi ∧ s.vm.findClass (iv_cn (iv_kf mi)) = some m.cls ∧ (∀ w ∈ iv_Wd, w.before args s = true) ∧ (iv_ini mi = true → meth.name = "<init>") ∧ iv_K D cO s
/-- the heap and the locals are as the interpreter has them -/
def iv_I (D : va_G) (cO : Nat → ClassId) (A : Nat → Prop) (H0 : Heap) (mi : Nat) (ad : iv_A) (al : iv_L) (st : List Value) (h : iv_H) (H : Heap) (locs : List Loc) (ls : Array Slot) : Prop :=
  va_P D iv_cl (iv_w ad cO h) H ∧ va_D A (iv_w ad cO h) ∧ va_S A H0 H locs ∧ lv_has ls (iv_mx mi) (iv_ll ad al) ∧ iv_ga h.length al ∧ iv_gl h.length st ∧ iv_gh h.length h
theorem iv_d1 {mi pc : Nat} {op : Jvm.ClassFile.Instr} (h : iv_cd mi pc = some op) (e : iv_n op = 1) : decode (iv_by mi) pc = .ok (op, 1) := by
  rw [← e]; exact iv_dq h (by rw [e]; decide)
theorem iv_d2 {mi pc : Nat} {op : Jvm.ClassFile.Instr} (h : iv_cd mi pc = some op) (e : iv_n op = 2) : decode (iv_by mi) pc = .ok (op, 2) := by
  rw [← e]; exact iv_dq h (by rw [e]; decide)
theorem iv_d3 {mi pc : Nat} {op : Jvm.ClassFile.Instr} (h : iv_cd mi pc = some op) (e : iv_n op = 3) : decode (iv_by mi) pc = .ok (op, 3) := by
  rw [← e]; exact iv_dq h (by rw [e]; decide)
section IVS
variable {p : Program} {l : Launch} {e : Env} {R : Room} {s : State} {m : MethodId} {args : Array Value} {below : List Frame} {meth : Method} {c : Code} {H : Heap} {locs : List Loc} {cells slots : Nat} {Q : State → Prop}
variable {D : va_G} {cO : Nat → ClassId} {A : Nat → Prop} {H0 : Heap} {mi pc : Nat} {ad : iv_A} {al al' : iv_L} {st st' r : List Value} {h h' : iv_H} {ls ls' : Array Slot}
theorem iv_kk0 {pc' : Nat} (I : iv_I D cO A H0 mi ad al st h H locs ls) (hl : lv_has ls' (iv_mx mi) (iv_ll ad al')) (ga : iv_ga h.length al') (gs : iv_gl h.length st')
    (kk : ∀ (ad' : iv_A) (H' : Heap) (locs' : List Loc) (ls' : Array Slot), iv_ag h.length ad ad' → iv_I D cO A H0 mi ad' al' st' h H' locs' ls' → W p l e R s m args below meth c H' locs' (cells + (h.length - h.length)) (slots + (iv_sz h - iv_sz h)) Q (F0 m pc' ls' (st'.map (iv_v ad')))) :
    W p l e R s m args below meth c H locs cells slots Q (F0 m pc' ls' (st'.map (iv_v ad))) := by
  have k := kk ad H locs ls' iv_ag.rf ⟨I.1, I.2.1, I.2.2.1, hl, ga, gs, I.2.2.2.2.2.2⟩
  rw [Nat.sub_self, Nat.sub_self] at k
  exact k
theorem iv_kkS {pc' k : Nat} {cl : iv_C} {H1 : Heap} {locs1 : List Loc} (hef : iv_ef h (some (some k, cl)) = some h') (I : iv_I D cO A H0 mi ad al st h H locs ls) (hP1 : va_P D iv_cl (iv_w ad cO (h.set k cl)) H1) (hD1 : va_D A (iv_w ad cO (h.set k cl))) (hS1 : va_S A H0 H1 locs1) (gs : iv_gl h.length st') (gc : iv_gc h.length cl)
    (kk : ∀ (ad' : iv_A) (H' : Heap) (locs' : List Loc) (ls' : Array Slot), iv_ag h.length ad ad' → iv_I D cO A H0 mi ad' al st' h' H' locs' ls' → W p l e R s m args below meth c H' locs' (cells + (h'.length - h.length)) (slots + (iv_sz h' - iv_sz h)) Q (F0 m pc' ls' (st'.map (iv_v ad')))) :
    W p l e R s m args below meth c H1 locs1 cells slots Q (F0 m pc' ls (st'.map (iv_v ad))) := by
  unfold iv_ef at hef
  dsimp only at hef
  split at hef
  · rename_i hz
    cases hef
    have hlen : (h.set k cl).length = h.length := List.length_set
    have k2 := kk ad H1 locs1 ls iv_ag.rf ⟨hP1, hD1, hS1, I.2.2.2.1, by rw [hlen]; exact I.2.2.2.2.1, by rw [hlen]; exact gs, by
      rw [hlen]
      intro j d hj
      rw [List.getElem?_set] at hj
      split at hj
      · split at hj
        · cases hj; exact gc
        · cases hj
      · exact I.2.2.2.2.2.2 j d hj⟩
    rw [hlen, iv_sz_set hz, Nat.sub_self, Nat.sub_self] at k2
    exact k2
  · cases hef
theorem iv_kkN {pc' q : Nat} {cl : iv_C} {H1 : Heap} {locs1 : List Loc} (hef : iv_ef h (some (none, cl)) = some h') (I : iv_I D cO A H0 mi ad al st h H locs ls) (hP1 : va_P D iv_cl (iv_w ad cO h ++ [(q, iv_e ad cO cl)]) H1) (hD1 : va_D A (iv_w ad cO h ++ [(q, iv_e ad cO cl)])) (hS1 : va_S A H0 H1 locs1) (gr : iv_gl h.length r) (gc : iv_gc h.length cl)
    (kk : ∀ (ad' : iv_A) (H' : Heap) (locs' : List Loc) (ls' : Array Slot), iv_ag h.length ad ad' → iv_I D cO A H0 mi ad' al (.ref h.length :: r) h' H' locs' ls' → W p l e R s m args below meth c H' locs' (cells + (h'.length - h.length)) (slots + (iv_sz h' - iv_sz h)) Q (F0 m pc' ls' ((Value.ref h.length :: r).map (iv_v ad')))) :
    W p l e R s m args below meth c H1 locs1 (cells + 1) (slots + iv_cz cl) Q (F0 m pc' ls (.ref q :: r.map (iv_v ad))) := by
  have hh : h' = h ++ [cl] := (Option.some.inj hef).symm
  subst hh
  have hlen : (h ++ [cl]).length = h.length + 1 := by simp
  have ag := iv_up_ag ad h.length q
  rw [iv_w_push I.2.2.2.2.2.2 gc q] at hP1 hD1
  have k2 := kk (iv_up ad h.length q) H1 locs1 ls ag ⟨hP1, hD1, hS1, iv_ll_ag ag I.2.2.2.2.1 I.2.2.2.1, I.2.2.2.2.1.mono (by omega), .cons (iv_g_r (by omega)) (gr.mono (by omega)), by
    rw [hlen]
    intro j d hj
    by_cases hjl : j < h.length
    · rw [List.getElem?_append_left hjl] at hj
      exact (I.2.2.2.2.2.2 j d hj).mono (by omega)
    · rw [List.getElem?_append_right (by omega)] at hj
      have hz : j - h.length < 1 := (List.getElem?_eq_some_iff.mp hj).1
      rw [show j - h.length = 0 by omega] at hj
      cases hj
      exact gc.mono (by omega)⟩
  rw [hlen, iv_sz_app, show h.length + 1 - h.length = 1 by omega, show iv_sz h + iv_cz cl - iv_sz h = iv_cz cl by omega] at k2
  have e1 : (Value.ref h.length :: r).map (iv_v (iv_up ad h.length q)) = Value.ref q :: r.map (iv_v ad) := by
    rw [List.map_cons, iv_st_ag ag gr]
    show Value.ref _ :: _ = _
    simp [iv_up]
  rw [e1] at k2
  exact k2
set_option maxHeartbeats 4000000 in
set_option maxRecDepth 20000 in
theorem iv_step {z : iv_Z} {op : Jvm.ClassFile.Instr} {o : iv_O} (hop : iv_op z mi pc op al st h = some o) (hef : iv_ef h o.2.2.2 = some h') (hcd : iv_cd mi pc = some op) (X : iv_X D cO p s m args meth c mi) (I : iv_I D cO A s.heap mi ad al st h H locs ls) (hA : ∀ q, s.heap.size ≤ q → A q)
    (hZ : ∀ q, z = some q → va_X (ad none) q.1 q.2 s s.heap ∧ ad none < s.heap.size ∧ ¬ A (ad none)) (hrc : cells + (h'.length - h.length) ≤ R.cells) (hrs : slots + (iv_sz h' - iv_sz h) ≤ R.slots) (hR6 : 6 ≤ R.frames ∧ 2000 ≤ R.locals) (hV : vd_AD A s s.heap)
    (kk : ∀ (ad' : iv_A) (H' : Heap) (locs' : List Loc) (ls' : Array Slot), iv_ag h.length ad ad' → iv_I D cO A s.heap mi ad' o.2.1 o.2.2.1 h' H' locs' ls' → W p l e R s m args below meth c H' locs' (cells + (h'.length - h.length)) (slots + (iv_sz h' - iv_sz h)) Q (F0 m o.1 ls' (o.2.2.1.map (iv_v ad')))) :
    W p l e R s m args below meth c H locs cells slots Q (F0 m pc ls (st.map (iv_v ad))) := by
  obtain ⟨hx, hb, hml, hown, hts, hini, hK⟩ := id X
  obtain ⟨hP, hD, hS, hl, ga, gs, gh⟩ := id I
  have hR : 1 ≤ R.frames ∧ 100 ≤ R.locals := by omega
  cases op with
  | iconst n =>
    obtain rfl := iv_pi_s hop
    cases hef
    exact lv_iconst hx hb (iv_d1 hcd rfl) rfl (iv_kk0 I hl ga (.cons (iv_g_i _ _) gs) kk)
  | bipush n =>
    obtain rfl := iv_pi_s hop
    cases hef
    exact lv_bipush hx hb (iv_d2 hcd rfl) rfl (iv_kk0 I hl ga (.cons (iv_g_i _ _) gs) kk)
  | sipush n =>
    obtain rfl := iv_pi_s hop
    cases hef
    exact lv_sipush hx hb (iv_d3 hcd rfl) rfl (iv_kk0 I hl ga (.cons (iv_g_i _ _) gs) kk)
  | lconst n =>
    obtain rfl := iv_pj_s hop
    cases hef
    exact lv_lconst hx hb (iv_d1 hcd rfl) rfl (iv_kk0 I hl ga (.cons (iv_g_j _ _) gs) kk)
  | ldc idx =>
    obtain ⟨x, e1, e_1⟩ := Option.bind_eq_some_iff.mp hop
    obtain rfl := iv_pi_s e_1
    cases hef
    exact lv_ldc hx hb hown (hts _ (iv_fL e1)) (iv_d2 hcd rfl) (iv_kk0 I hl ga (.cons (iv_g_i _ _) gs) kk)
  | ldc_w idx =>
    obtain ⟨x, e1, e_1⟩ := Option.bind_eq_some_iff.mp hop
    obtain rfl := iv_pi_s e_1
    cases hef
    exact lv_ldcw hx hb hown (hts _ (iv_fL e1)) (iv_d3 hcd rfl) (iv_kk0 I hl ga (.cons (iv_g_i _ _) gs) kk)
  | ldc2_w idx =>
    have hop : id_l2 mi (pc + 3) idx al st = some o := hop
    rcases id_l2_s hop with ⟨x, e1, rfl⟩ | ⟨x, e1, rfl⟩
    · cases hef
      exact lv_ldc2 hx hb hown (hts _ (iv_fL2 e1)) (iv_d3 hcd rfl) (iv_kk0 I hl ga (.cons (iv_g_j _ _) gs) kk)
    · cases hef
      exact lv_ldc2d hx hb hown (hts _ (id_fL e1)) (iv_d3 hcd rfl) (iv_kk0 I hl ga (.cons (iv_g_d _ _) gs) kk)
  | dconst k =>
    have hop : id_pd (pc + 1) al (bif Nat.beq (k : Nat) 0 then FP.dconst0 else FP.dconst1) st = some o := hop
    obtain rfl := id_pd_s hop
    cases hef
    match k, hcd, kk with
    | 0, hcd, kk => exact lv_dconst0 hx hb (iv_d1 hcd rfl) (iv_kk0 I hl ga (.cons (iv_g_d _ _) gs) kk)
    | 1, hcd, kk => exact lv_dconst1 hx hb (iv_d1 hcd rfl) (iv_kk0 I hl ga (.cons (iv_g_d _ _) gs) kk)
  | dload_n k =>
    obtain ⟨x, e1, e_1⟩ := id_ld_s hop
    obtain rfl := id_pd_s e_1
    cases hef
    exact lv_dload_n hx hb (iv_d1 hcd rfl) rfl (iv_lv hl e1) (iv_kk0 I hl ga (.cons (iv_g_d _ _) gs) kk)
  | dload k =>
    obtain ⟨x, e1, e_1⟩ := id_ld_s hop
    obtain rfl := id_pd_s e_1
    cases hef
    exact lv_dload hx hb (iv_d2 hcd rfl) (iv_lv hl e1) (iv_kk0 I hl ga (.cons (iv_g_d _ _) gs) kk)
  | fload_n k =>
    obtain ⟨x, e1, e_1⟩ := id_lf_s hop
    obtain rfl := id_pf_s e_1
    cases hef
    exact lv_fload_n hx hb (iv_d1 hcd rfl) rfl (iv_lv hl e1) (iv_kk0 I hl ga (.cons (iv_g_f _ _) gs) kk)
  | dstore_n k =>
    obtain ⟨x, r, rfl, e_1⟩ := id_d_s hop
    obtain ⟨hn, rfl⟩ := iv_sl_s e_1
    cases hef
    exact lv_dstore_n hx hb (iv_d1 hcd rfl) rfl hl hn rfl (fun ls hl2 => iv_kk0 I (iv_s2_lv (v := .double x) hl2) (iv_ga_s2 ga (iv_g_d _ _)) gs.tl kk)
  | dstore k =>
    obtain ⟨x, r, rfl, e_1⟩ := id_d_s hop
    obtain ⟨hn, rfl⟩ := iv_sl_s e_1
    cases hef
    exact lv_dstore hx hb (iv_d2 hcd rfl) hl hn rfl (fun ls hl2 => iv_kk0 I (iv_s2_lv (v := .double x) hl2) (iv_ga_s2 ga (iv_g_d _ _)) gs.tl kk)
  | dadd =>
    obtain ⟨x, y, r, rfl, hne, rfl⟩ := id_dd_s hop
    cases hef
    exact lv_dadd hx hb (iv_d1 hcd rfl) hne (iv_kk0 I hl ga (.cons (iv_g_d _ _) gs.tl.tl) kk)
  | dsub =>
    obtain ⟨x, y, r, rfl, hne, rfl⟩ := id_dd_s hop
    cases hef
    exact lv_dsub hx hb (iv_d1 hcd rfl) hne (iv_kk0 I hl ga (.cons (iv_g_d _ _) gs.tl.tl) kk)
  | dmul =>
    obtain ⟨x, y, r, rfl, hne, rfl⟩ := id_dd_s hop
    cases hef
    exact lv_dmul hx hb (iv_d1 hcd rfl) hne (iv_kk0 I hl ga (.cons (iv_g_d _ _) gs.tl.tl) kk)
  | ddiv =>
    obtain ⟨x, y, r, rfl, hne, rfl⟩ := id_dd_s hop
    cases hef
    exact lv_ddiv hx hb (iv_d1 hcd rfl) hne (iv_kk0 I hl ga (.cons (iv_g_d _ _) gs.tl.tl) kk)
  | drem =>
    obtain ⟨x, y, r, rfl, hne, rfl⟩ := id_dd_s hop
    cases hef
    exact lv_drem hx hb (iv_d1 hcd rfl) hne (iv_kk0 I hl ga (.cons (iv_g_d _ _) gs.tl.tl) kk)
  | dcmp c =>
    obtain ⟨y, r1, rfl, e_1⟩ := id_d_s hop
    obtain ⟨x, r, rfl, e_2⟩ := id_d_s e_1
    obtain rfl := iv_pi_s e_2
    cases hef
    exact lv_dcmp hx hb (iv_d1 hcd rfl) (iv_kk0 I hl ga (.cons (iv_g_i _ _) gs.tl.tl) kk)
  | i2d =>
    obtain ⟨x, r, rfl, e_1⟩ := iv_i_s hop
    obtain rfl := id_pd_s e_1
    cases hef
    exact lv_i2d hx hb (iv_d1 hcd rfl) (iv_kk0 I hl ga (.cons (iv_g_d _ _) gs.tl) kk)
  | l2d =>
    obtain ⟨x, r, rfl, e_1⟩ := iv_j_s hop
    obtain rfl := id_pd_s e_1
    cases hef
    exact lv_l2d hx hb (iv_d1 hcd rfl) (iv_kk0 I hl ga (.cons (iv_g_d _ _) gs.tl) kk)
  | d2l =>
    obtain ⟨x, r, rfl, e_1⟩ := id_d_s hop
    obtain rfl := iv_pj_s e_1
    cases hef
    exact lv_d2l hx hb (iv_d1 hcd rfl) (iv_kk0 I hl ga (.cons (iv_g_j _ _) gs.tl) kk)
  | d2f =>
    obtain ⟨x, r, rfl, e_1⟩ := id_d_s hop
    obtain ⟨hne, rfl⟩ := id_gf_s e_1
    cases hef
    exact lv_d2f hx hb (iv_d1 hcd rfl) hne (iv_kk0 I hl ga (.cons (iv_g_f _ _) gs.tl) kk)
  | f2d =>
    obtain ⟨x, r, rfl, e_1⟩ := id_f_s hop
    obtain ⟨hne, rfl⟩ := id_gd_s e_1
    cases hef
    exact lv_f2d hx hb (iv_d1 hcd rfl) hne (iv_kk0 I hl ga (.cons (iv_g_d _ _) gs.tl) kk)
  | iload_n k =>
    obtain ⟨x, e1, e_1⟩ := iv_li_s hop
    obtain rfl := iv_pi_s e_1
    cases hef
    exact lv_iload_n hx hb (iv_d1 hcd rfl) rfl (iv_lv hl e1) (iv_kk0 I hl ga (.cons (iv_g_i _ _) gs) kk)
  | iload k =>
    obtain ⟨x, e1, e_1⟩ := iv_li_s hop
    obtain rfl := iv_pi_s e_1
    cases hef
    exact lv_iload hx hb (iv_d2 hcd rfl) (iv_lv hl e1) (iv_kk0 I hl ga (.cons (iv_g_i _ _) gs) kk)
  | lload_n k =>
    obtain ⟨x, e1, e_1⟩ := iv_lj_s hop
    obtain rfl := iv_pj_s e_1
    cases hef
    exact lv_lload_n hx hb (iv_d1 hcd rfl) rfl (iv_lv hl e1) (iv_kk0 I hl ga (.cons (iv_g_j _ _) gs) kk)
  | lload k =>
    obtain ⟨x, e1, e_1⟩ := iv_lj_s hop
    obtain rfl := iv_pj_s e_1
    cases hef
    exact lv_lload hx hb (iv_d2 hcd rfl) (iv_lv hl e1) (iv_kk0 I hl ga (.cons (iv_g_j _ _) gs) kk)
  | aload_n k =>
    have hop : iv_la al (k : Nat) (fun x => some (pc + 1, al, x :: st, none)) = some o := hop
    obtain ⟨v, e1, hv, e_1⟩ := iv_la_s hop
    cases e_1
    cases hef
    rcases hv with ⟨k2, rfl⟩ | ⟨k2, rfl⟩
    · exact lv_aload_n hx hb (iv_d1 hcd rfl) rfl (iv_lv hl e1) (iv_kk0 I hl ga (.cons (ga _ _ e1) gs) kk)
    · exact lv_aload_n hx hb (iv_d1 hcd rfl) rfl (iv_lv hl e1) (iv_kk0 I hl ga (.cons (ga _ _ e1) gs) kk)
  | aload k =>
    have hop : iv_la al k (fun x => some (pc + 2, al, x :: st, none)) = some o := hop
    obtain ⟨v, e1, hv, e_1⟩ := iv_la_s hop
    cases e_1
    cases hef
    rcases hv with ⟨k2, rfl⟩ | ⟨k2, rfl⟩
    · exact lv_aload hx hb (iv_d2 hcd rfl) (iv_lv hl e1) (iv_kk0 I hl ga (.cons (ga _ _ e1) gs) kk)
    · exact lv_aload hx hb (iv_d2 hcd rfl) (iv_lv hl e1) (iv_kk0 I hl ga (.cons (ga _ _ e1) gs) kk)
  | istore_n k =>
    obtain ⟨x, r, rfl, e_1⟩ := iv_i_s hop
    obtain ⟨hn, rfl⟩ := iv_sl_s e_1
    cases hef
    exact lv_istore_n hx hb (iv_d1 hcd rfl) rfl hl hn rfl (fun ls hl2 => iv_kk0 I (iv_s1_lv (v := .int x) hl2) (iv_ga_s1 ga (iv_g_i _ _)) gs.tl kk)
  | istore k =>
    obtain ⟨x, r, rfl, e_1⟩ := iv_i_s hop
    obtain ⟨hn, rfl⟩ := iv_sl_s e_1
    cases hef
    exact lv_istore hx hb (iv_d2 hcd rfl) hl hn rfl (fun ls hl2 => iv_kk0 I (iv_s1_lv (v := .int x) hl2) (iv_ga_s1 ga (iv_g_i _ _)) gs.tl kk)
  | lstore_n k =>
    obtain ⟨x, r, rfl, e_1⟩ := iv_j_s hop
    obtain ⟨hn, rfl⟩ := iv_sl_s e_1
    cases hef
    exact lv_lstore_n hx hb (iv_d1 hcd rfl) rfl hl hn rfl (fun ls hl2 => iv_kk0 I (iv_s2_lv (v := .long x) hl2) (iv_ga_s2 ga (iv_g_j _ _)) gs.tl kk)
  | lstore k =>
    obtain ⟨x, r, rfl, e_1⟩ := iv_j_s hop
    obtain ⟨hn, rfl⟩ := iv_sl_s e_1
    cases hef
    exact lv_lstore hx hb (iv_d2 hcd rfl) hl hn rfl (fun ls hl2 => iv_kk0 I (iv_s2_lv (v := .long x) hl2) (iv_ga_s2 ga (iv_g_j _ _)) gs.tl kk)
  | astore_n k =>
    obtain ⟨x, r, rfl, e_1⟩ := iv_r_s hop
    obtain ⟨hn, rfl⟩ := iv_sl_s e_1
    cases hef
    exact lv_astore_n hx hb (iv_d1 hcd rfl) rfl hl hn rfl (fun ls hl2 => iv_kk0 I (iv_s1_lv (v := .ref x) hl2) (iv_ga_s1 ga (gs.hd)) gs.tl kk)
  | astore k =>
    obtain ⟨x, r, rfl, e_1⟩ := iv_r_s hop
    obtain ⟨hn, rfl⟩ := iv_sl_s e_1
    cases hef
    exact lv_astore hx hb (iv_d2 hcd rfl) hl hn rfl (fun ls hl2 => iv_kk0 I (iv_s1_lv (v := .ref x) hl2) (iv_ga_s1 ga (gs.hd)) gs.tl kk)
  | iinc i n =>
    obtain ⟨x, e1, e_1⟩ := iv_li_s hop
    obtain ⟨hn, rfl⟩ := iv_sl_s e_1
    cases hef
    obtain ⟨k2, hk2⟩ := List.getElem?_of_mem (iv_ll_mem.mpr ⟨_, e1, rfl⟩ : (i, iv_v ad (.int x)) ∈ iv_ll ad al)
    exact lv_iinc hx hb (iv_d3 hcd rfl) hl hk2 rfl hn rfl (fun ls hl2 => iv_kk0 I (iv_s1_lv (v := .int (x + Int32.ofInt n)) hl2) (iv_ga_s1 ga (iv_g_i _ _)) gs kk)
  | iadd =>
    obtain ⟨x, y, r, rfl, rfl⟩ := iv_ii_s hop
    cases hef
    exact lv_iadd hx hb (iv_d1 hcd rfl) (iv_kk0 I hl ga (.cons (iv_g_i _ _) gs.tl.tl) kk)
  | isub =>
    obtain ⟨x, y, r, rfl, rfl⟩ := iv_ii_s hop
    cases hef
    exact lv_isub hx hb (iv_d1 hcd rfl) (iv_kk0 I hl ga (.cons (iv_g_i _ _) gs.tl.tl) kk)
  | imul =>
    obtain ⟨x, y, r, rfl, rfl⟩ := iv_ii_s hop
    cases hef
    exact lv_imul hx hb (iv_d1 hcd rfl) (iv_kk0 I hl ga (.cons (iv_g_i _ _) gs.tl.tl) kk)
  | iand =>
    obtain ⟨x, y, r, rfl, rfl⟩ := iv_ii_s hop
    cases hef
    exact lv_iand hx hb (iv_d1 hcd rfl) (iv_kk0 I hl ga (.cons (iv_g_i _ _) gs.tl.tl) kk)
  | ior =>
    obtain ⟨x, y, r, rfl, rfl⟩ := iv_ii_s hop
    cases hef
    exact lv_ior hx hb (iv_d1 hcd rfl) (iv_kk0 I hl ga (.cons (iv_g_i _ _) gs.tl.tl) kk)
  | ixor =>
    obtain ⟨x, y, r, rfl, rfl⟩ := iv_ii_s hop
    cases hef
    exact lv_ixor hx hb (iv_d1 hcd rfl) (iv_kk0 I hl ga (.cons (iv_g_i _ _) gs.tl.tl) kk)
  | ishl =>
    obtain ⟨x, y, r, rfl, rfl⟩ := iv_ii_s hop
    cases hef
    exact lv_ishl hx hb (iv_d1 hcd rfl) (iv_kk0 I hl ga (.cons (iv_g_i _ _) gs.tl.tl) kk)
  | ishr =>
    obtain ⟨x, y, r, rfl, rfl⟩ := iv_ii_s hop
    cases hef
    exact lv_ishr hx hb (iv_d1 hcd rfl) (iv_kk0 I hl ga (.cons (iv_g_i _ _) gs.tl.tl) kk)
  | iushr =>
    obtain ⟨x, y, r, rfl, rfl⟩ := iv_ii_s hop
    cases hef
    exact lv_iushr hx hb (iv_d1 hcd rfl) rfl (iv_kk0 I hl ga (.cons (iv_g_i _ _) gs.tl.tl) kk)
  | ladd =>
    obtain ⟨x, y, r, rfl, rfl⟩ := iv_jj_s hop
    cases hef
    exact lv_ladd hx hb (iv_d1 hcd rfl) (iv_kk0 I hl ga (.cons (iv_g_j _ _) gs.tl.tl) kk)
  | lsub =>
    obtain ⟨x, y, r, rfl, rfl⟩ := iv_jj_s hop
    cases hef
    exact lv_lsub hx hb (iv_d1 hcd rfl) (iv_kk0 I hl ga (.cons (iv_g_j _ _) gs.tl.tl) kk)
  | lmul =>
    obtain ⟨x, y, r, rfl, rfl⟩ := iv_jj_s hop
    cases hef
    exact lv_lmul hx hb (iv_d1 hcd rfl) (iv_kk0 I hl ga (.cons (iv_g_j _ _) gs.tl.tl) kk)
  | land =>
    obtain ⟨x, y, r, rfl, rfl⟩ := iv_jj_s hop
    cases hef
    exact lv_land hx hb (iv_d1 hcd rfl) (iv_kk0 I hl ga (.cons (iv_g_j _ _) gs.tl.tl) kk)
  | lor =>
    obtain ⟨x, y, r, rfl, rfl⟩ := iv_jj_s hop
    cases hef
    exact lv_lor hx hb (iv_d1 hcd rfl) (iv_kk0 I hl ga (.cons (iv_g_j _ _) gs.tl.tl) kk)
  | lxor =>
    obtain ⟨x, y, r, rfl, rfl⟩ := iv_jj_s hop
    cases hef
    exact lv_lxor hx hb (iv_d1 hcd rfl) (iv_kk0 I hl ga (.cons (iv_g_j _ _) gs.tl.tl) kk)
  | idiv =>
    obtain ⟨y, r1, rfl, e_1⟩ := iv_i_s hop
    obtain ⟨x, r, rfl, e_2⟩ := iv_i_s e_1
    split at e_2
    · cases e_2
    · rename_i hne
      obtain rfl := iv_pi_s e_2
      cases hef
      exact lv_idiv hx hb (iv_d1 hcd rfl) hne (iv_kk0 I hl ga (.cons (iv_g_i _ _) gs.tl.tl) kk)
  | irem =>
    obtain ⟨y, r1, rfl, e_1⟩ := iv_i_s hop
    obtain ⟨x, r, rfl, e_2⟩ := iv_i_s e_1
    split at e_2
    · cases e_2
    · rename_i hne
      obtain rfl := iv_pi_s e_2
      cases hef
      exact lv_irem hx hb (iv_d1 hcd rfl) hne (iv_kk0 I hl ga (.cons (iv_g_i _ _) gs.tl.tl) kk)
  | ldiv =>
    obtain ⟨y, r1, rfl, e_1⟩ := iv_j_s hop
    obtain ⟨x, r, rfl, e_2⟩ := iv_j_s e_1
    split at e_2
    · cases e_2
    · rename_i hne
      obtain rfl := iv_pj_s e_2
      cases hef
      exact lv_ldiv hx hb (iv_d1 hcd rfl) hne (iv_kk0 I hl ga (.cons (iv_g_j _ _) gs.tl.tl) kk)
  | lrem =>
    obtain ⟨y, r1, rfl, e_1⟩ := iv_j_s hop
    obtain ⟨x, r, rfl, e_2⟩ := iv_j_s e_1
    split at e_2
    · cases e_2
    · rename_i hne
      obtain rfl := iv_pj_s e_2
      cases hef
      exact lv_lrem hx hb (iv_d1 hcd rfl) hne (iv_kk0 I hl ga (.cons (iv_g_j _ _) gs.tl.tl) kk)
  | ineg =>
    obtain ⟨x, r, rfl, e_1⟩ := iv_i_s hop
    obtain rfl := iv_pi_s e_1
    cases hef
    exact lv_ineg hx hb (iv_d1 hcd rfl) (iv_kk0 I hl ga (.cons (iv_g_i _ _) gs.tl) kk)
  | lshl =>
    obtain ⟨y, r1, rfl, e_1⟩ := iv_i_s hop
    obtain ⟨x, r, rfl, e_2⟩ := iv_j_s e_1
    obtain rfl := iv_pj_s e_2
    cases hef
    exact lv_lshl hx hb (iv_d1 hcd rfl) rfl (iv_kk0 I hl ga (.cons (iv_g_j _ _) gs.tl.tl) kk)
  | lshr =>
    obtain ⟨y, r1, rfl, e_1⟩ := iv_i_s hop
    obtain ⟨x, r, rfl, e_2⟩ := iv_j_s e_1
    obtain rfl := iv_pj_s e_2
    cases hef
    exact lv_lshr hx hb (iv_d1 hcd rfl) rfl (iv_kk0 I hl ga (.cons (iv_g_j _ _) gs.tl.tl) kk)
  | pop2 =>
    obtain ⟨v, r, rfl, hv, e_1⟩ := iv_2_s hop
    cases e_1
    cases hef
    exact lv_pop2_2 hx hb (iv_d1 hcd rfl) ((iv_v_cat ad v).trans hv) (iv_kk0 I hl ga gs.tl kk)
  | lneg =>
    obtain ⟨x, r, rfl, e_1⟩ := iv_j_s hop
    obtain rfl := iv_pj_s e_1
    cases hef
    exact lv_lneg hx hb (iv_d1 hcd rfl) (iv_kk0 I hl ga (.cons (iv_g_j _ _) gs.tl) kk)
  | lcmp =>
    obtain ⟨y, r1, rfl, e_1⟩ := iv_j_s hop
    obtain ⟨x, r, rfl, e_2⟩ := iv_j_s e_1
    obtain rfl := iv_pi_s e_2
    cases hef
    exact W.lcmp hx hb (iv_d1 hcd rfl) (iv_kk0 I hl ga (.cons (iv_g_i _ _) gs.tl.tl) kk)
  | i2l =>
    obtain ⟨x, r, rfl, e_1⟩ := iv_i_s hop
    obtain rfl := iv_pj_s e_1
    cases hef
    exact lv_i2l hx hb (iv_d1 hcd rfl) rfl (iv_kk0 I hl ga (.cons (iv_g_j _ _) gs.tl) kk)
  | l2i =>
    obtain ⟨x, r, rfl, e_1⟩ := iv_j_s hop
    obtain rfl := iv_pi_s e_1
    cases hef
    exact lv_l2i hx hb (iv_d1 hcd rfl) rfl (iv_kk0 I hl ga (.cons (iv_g_i _ _) gs.tl) kk)
  | i2b =>
    obtain ⟨x, r, rfl, e_1⟩ := iv_i_s hop
    obtain rfl := iv_pi_s e_1
    cases hef
    exact lv_i2b hx hb (iv_d1 hcd rfl) rfl (iv_kk0 I hl ga (.cons (iv_g_i _ _) gs.tl) kk)
  | dup =>
    obtain ⟨v, r, rfl, hv, e_1⟩ := iv_1_s hop
    cases e_1
    cases hef
    exact lv_dup hx hb (iv_d1 hcd rfl) ((iv_v_cat ad v).trans hv) (iv_kk0 I hl ga (.cons gs.hd gs) kk)
  | pop =>
    obtain ⟨v, r, rfl, hv, e_1⟩ := iv_1_s hop
    cases e_1
    cases hef
    exact lv_pop hx hb (iv_d1 hcd rfl) ((iv_v_cat ad v).trans hv) (iv_kk0 I hl ga gs.tl kk)
  | dup_x1 =>
    obtain ⟨v, r1, rfl, hv, e_1⟩ := iv_1_s hop
    obtain ⟨u, r, rfl, hu, e_2⟩ := iv_1_s e_1
    cases e_2
    cases hef
    exact lv_dup_x1 hx hb (iv_d1 hcd rfl) ((iv_v_cat ad v).trans hv) ((iv_v_cat ad u).trans hu) (iv_kk0 I hl ga (.cons gs.hd (.cons gs.tl.hd (.cons gs.hd gs.tl.tl))) kk)
  | dup_x2 =>
    obtain ⟨v, r1, rfl, hv, e_1⟩ := iv_1_s hop
    obtain ⟨u, r2, rfl, hu, e_2⟩ := iv_1_s e_1
    obtain ⟨y, r, rfl, hy, e_3⟩ := iv_1_s e_2
    cases e_3
    cases hef
    exact lv_dup_x2 hx hb (iv_d1 hcd rfl) ((iv_v_cat ad v).trans hv) ((iv_v_cat ad u).trans hu) ((iv_v_cat ad y).trans hy) (iv_kk0 I hl ga (.cons gs.hd (.cons gs.tl.hd (.cons gs.tl.tl.hd (.cons gs.hd gs.tl.tl.tl)))) kk)
  | dup2 =>
    obtain ⟨v, r1, rfl, hv, e_1⟩ := iv_1_s hop
    obtain ⟨u, r, rfl, hu, e_2⟩ := iv_1_s e_1
    cases e_2
    cases hef
    exact lv_dup2_11 hx hb (iv_d1 hcd rfl) ((iv_v_cat ad v).trans hv) ((iv_v_cat ad u).trans hu) (iv_kk0 I hl ga (.cons gs.hd (.cons gs.tl.hd gs)) kk)
  | goto off =>
    obtain ⟨t, ht, rfl⟩ := iv_jp_s hop
    cases hef
    exact lv_goto hx hb (iv_d3 hcd rfl) ht (iv_kk0 I hl ga gs kk)
  | ifCond cc off =>
    cases cc with
    | eq =>
      obtain ⟨x, r, rfl, t, ht, q⟩ := iv_c1_s hop
      rcases q with ⟨hc, rfl⟩ | ⟨hc, rfl⟩ <;> cases hef
      · exact lv_if_eq hx hb (iv_d3 hcd rfl) ht (fun _ => iv_kk0 I hl ga gs.tl kk) (fun q => absurd (of_decide_eq_true hc) q)
      · exact lv_if_eq hx hb (iv_d3 hcd rfl) ht (fun q => absurd q (of_decide_eq_false hc)) (fun _ => iv_kk0 I hl ga gs.tl kk)
    | ne =>
      obtain ⟨x, r, rfl, t, ht, q⟩ := iv_c1_s hop
      rcases q with ⟨hc, rfl⟩ | ⟨hc, rfl⟩ <;> cases hef
      · exact lv_if_ne hx hb (iv_d3 hcd rfl) ht (fun _ => iv_kk0 I hl ga gs.tl kk) (fun q => absurd (of_decide_eq_true hc) (fun z => z q))
      · exact lv_if_ne hx hb (iv_d3 hcd rfl) ht (fun q => absurd q (of_decide_eq_false hc)) (fun _ => iv_kk0 I hl ga gs.tl kk)
    | lt =>
      obtain ⟨x, r, rfl, t, ht, q⟩ := iv_c1_s hop
      rcases q with ⟨hc, rfl⟩ | ⟨hc, rfl⟩ <;> cases hef
      · exact lv_if_lt hx hb (iv_d3 hcd rfl) ht (fun _ => iv_kk0 I hl ga gs.tl kk) (fun q => absurd (of_decide_eq_true hc) q)
      · exact lv_if_lt hx hb (iv_d3 hcd rfl) ht (fun q => absurd q (of_decide_eq_false hc)) (fun _ => iv_kk0 I hl ga gs.tl kk)
    | ge =>
      obtain ⟨x, r, rfl, t, ht, q⟩ := iv_c1_s hop
      rcases q with ⟨hc, rfl⟩ | ⟨hc, rfl⟩ <;> cases hef
      · exact lv_if_ge hx hb (iv_d3 hcd rfl) ht (fun _ => iv_kk0 I hl ga gs.tl kk) (fun q => absurd (of_decide_eq_true hc) q)
      · exact lv_if_ge hx hb (iv_d3 hcd rfl) ht (fun q => absurd q (of_decide_eq_false hc)) (fun _ => iv_kk0 I hl ga gs.tl kk)
    | gt =>
      obtain ⟨x, r, rfl, t, ht, q⟩ := iv_c1_s hop
      rcases q with ⟨hc, rfl⟩ | ⟨hc, rfl⟩ <;> cases hef
      · exact lv_if_gt hx hb (iv_d3 hcd rfl) ht (fun _ => iv_kk0 I hl ga gs.tl kk) (fun q => absurd (of_decide_eq_true hc) q)
      · exact lv_if_gt hx hb (iv_d3 hcd rfl) ht (fun q => absurd q (of_decide_eq_false hc)) (fun _ => iv_kk0 I hl ga gs.tl kk)
    | le =>
      obtain ⟨x, r, rfl, t, ht, q⟩ := iv_c1_s hop
      rcases q with ⟨hc, rfl⟩ | ⟨hc, rfl⟩ <;> cases hef
      · exact lv_if_le hx hb (iv_d3 hcd rfl) ht (fun _ => iv_kk0 I hl ga gs.tl kk) (fun q => absurd (of_decide_eq_true hc) q)
      · exact lv_if_le hx hb (iv_d3 hcd rfl) ht (fun q => absurd q (of_decide_eq_false hc)) (fun _ => iv_kk0 I hl ga gs.tl kk)
  | if_icmp cc off =>
    cases cc with
    | eq =>
      obtain ⟨x, y, r, rfl, t, ht, q⟩ := iv_c2_s hop
      rcases q with ⟨hc, rfl⟩ | ⟨hc, rfl⟩ <;> cases hef
      · exact lv_icmp_eq hx hb (iv_d3 hcd rfl) ht (fun _ => iv_kk0 I hl ga gs.tl.tl kk) (fun q => absurd (of_decide_eq_true hc) q)
      · exact lv_icmp_eq hx hb (iv_d3 hcd rfl) ht (fun q => absurd q (of_decide_eq_false hc)) (fun _ => iv_kk0 I hl ga gs.tl.tl kk)
    | ne =>
      obtain ⟨x, y, r, rfl, t, ht, q⟩ := iv_c2_s hop
      rcases q with ⟨hc, rfl⟩ | ⟨hc, rfl⟩ <;> cases hef
      · exact lv_icmp_ne hx hb (iv_d3 hcd rfl) ht (fun _ => iv_kk0 I hl ga gs.tl.tl kk) (fun q => absurd (of_decide_eq_true hc) (fun z => z q))
      · exact lv_icmp_ne hx hb (iv_d3 hcd rfl) ht (fun q => absurd q (of_decide_eq_false hc)) (fun _ => iv_kk0 I hl ga gs.tl.tl kk)
    | lt =>
      obtain ⟨x, y, r, rfl, t, ht, q⟩ := iv_c2_s hop
      rcases q with ⟨hc, rfl⟩ | ⟨hc, rfl⟩ <;> cases hef
      · exact lv_icmp_lt hx hb (iv_d3 hcd rfl) ht (fun _ => iv_kk0 I hl ga gs.tl.tl kk) (fun q => absurd (of_decide_eq_true hc) q)
      · exact lv_icmp_lt hx hb (iv_d3 hcd rfl) ht (fun q => absurd q (of_decide_eq_false hc)) (fun _ => iv_kk0 I hl ga gs.tl.tl kk)
    | ge =>
      obtain ⟨x, y, r, rfl, t, ht, q⟩ := iv_c2_s hop
      rcases q with ⟨hc, rfl⟩ | ⟨hc, rfl⟩ <;> cases hef
      · exact lv_icmp_ge hx hb (iv_d3 hcd rfl) ht (fun _ => iv_kk0 I hl ga gs.tl.tl kk) (fun q => absurd (of_decide_eq_true hc) q)
      · exact lv_icmp_ge hx hb (iv_d3 hcd rfl) ht (fun q => absurd q (of_decide_eq_false hc)) (fun _ => iv_kk0 I hl ga gs.tl.tl kk)
    | gt =>
      obtain ⟨x, y, r, rfl, t, ht, q⟩ := iv_c2_s hop
      rcases q with ⟨hc, rfl⟩ | ⟨hc, rfl⟩ <;> cases hef
      · exact lv_icmp_gt hx hb (iv_d3 hcd rfl) ht (fun _ => iv_kk0 I hl ga gs.tl.tl kk) (fun q => absurd (of_decide_eq_true hc) q)
      · exact lv_icmp_gt hx hb (iv_d3 hcd rfl) ht (fun q => absurd q (of_decide_eq_false hc)) (fun _ => iv_kk0 I hl ga gs.tl.tl kk)
    | le =>
      obtain ⟨x, y, r, rfl, t, ht, q⟩ := iv_c2_s hop
      rcases q with ⟨hc, rfl⟩ | ⟨hc, rfl⟩ <;> cases hef
      · exact lv_icmp_le hx hb (iv_d3 hcd rfl) ht (fun _ => iv_kk0 I hl ga gs.tl.tl kk) (fun q => absurd (of_decide_eq_true hc) q)
      · exact lv_icmp_le hx hb (iv_d3 hcd rfl) ht (fun q => absurd q (of_decide_eq_false hc)) (fun _ => iv_kk0 I hl ga gs.tl.tl kk)
  | tableswitch dflt lo hi offs =>
    obtain ⟨x, r, rfl, e_1⟩ := iv_i_s hop
    obtain ⟨len, hd⟩ := iv_dw hcd
    split at e_1
    · rename_i hc
      obtain ⟨t, ht, rfl⟩ := iv_jp_s e_1
      cases hef
      exact lv_tableOut hx hb hd hc ht (iv_kk0 I hl ga gs.tl kk)
    · rename_i hc
      obtain ⟨off, ho, e_2⟩ := Option.bind_eq_some_iff.mp e_1
      obtain ⟨t, ht, rfl⟩ := iv_jp_s e_2
      cases hef
      exact lv_tableIn hx hb hd (fun q => hc (Or.inl q)) (fun q => hc (Or.inr q)) ho ht (iv_kk0 I hl ga gs.tl kk)
  | lookupswitch dflt ps =>
    obtain ⟨x, r, rfl, e_1⟩ := iv_i_s hop
    obtain ⟨len, hd⟩ := iv_dw hcd
    split at e_1
    · rename_i hc
      obtain ⟨t, ht, rfl⟩ := iv_jp_s e_1
      cases hef
      exact lv_lookup hx hb hd hc rfl ht (iv_kk0 I hl ga gs.tl kk)
    · cases e_1
  | getfield idx =>
    obtain ⟨k, r, rfl, e_1⟩ := iv_r_s hop
    obtain ⟨v, e1, e_2⟩ := Option.bind_eq_some_iff.mp e_1
    cases e_2
    cases hef
    obtain ⟨ci, j, fs, f1, f2, f3⟩ := iv_gf_s e1
    obtain ⟨C, T, N, g1, g2, g3⟩ := iv_fF f1
    obtain ⟨c1, -⟩ := iv_fC g1
    exact va_get (D := D) (ci := ci) (fs := fs.map (iv_v ad)) (v := iv_v ad v) hx hb hts c1 hown hK.1 hP k (iv_w_get f2) g1 j g2 (hts _ g3) (fun x h9 => h9) (by rw [List.getElem?_map, f3]; rfl) (iv_d3 hcd rfl) (iv_kk0 I hl ga (.cons ((gh k _ f2) v (List.mem_of_getElem? f3)) gs.tl) kk)
  | putfield idx =>
    obtain ⟨v, r1, rfl, e_1⟩ := iv_1or2_s hop
    obtain ⟨k, r, rfl, e_2⟩ := iv_r_s e_1
    obtain ⟨q, e1, e_3⟩ := Option.bind_eq_some_iff.mp e_2
    cases e_3
    obtain ⟨ci, j, fs, f1, f2, f3, f4, f5, rfl⟩ := iv_pf_s e1
    obtain ⟨C, T, N, g1, g2, g3⟩ := iv_fF f1
    obtain ⟨c1, c2, c3, -, -, -, -, c8, c9, -⟩ := iv_fC g1
    have e9 : (iv_w ad cO h).set k (ad (some k), .inr (ci, (fs.map (iv_v ad)).set j (iv_v ad v))) = iv_w ad cO (h.set k (.inl (ci, fs.set j v))) := by
      rw [← iv_w_set]
      show _ = (iv_w ad cO h).set k (ad (some k), .inr (ci, (fs.set j v).map (iv_v ad)))
      rw [List.map_set]
    have gc : iv_gc h.length (.inl (ci, fs.set j v)) := fun u hu => by
      rcases List.mem_or_eq_of_mem_set hu with hu | rfl
      · exact gh k _ f2 u hu
      · exact gs.hd
    obtain ⟨n1, n2⟩ := iv_ok_nf f4 ad
    cases hfin : iv_fi ci j with
    | false =>
      refine va_put (D := D) (ci := ci) (fs := fs.map (iv_v ad)) (v := iv_v ad v) (ty := iv_ft ci j) hx hb hts c1 (iv_ft ci) c2 c3 hown hK.1 hP hD hS k (iv_w_get f2) g1 j g2 (hts _ g3) (fun x h9 => h9) ((c8 j g2).2.trans hfin) (c2 j g2) n1 n2 (by rw [List.length_map]; exact f3) (iv_d3 hcd rfl) (fun H1 locs1 p1 d1 s1 => ?_)
      rw [e9] at p1 d1
      exact iv_kkS hef I p1 d1 s1 gs.tl.tl gc kk
    | true =>
      have hf : iv_ini mi = true ∧ iv_ow ci = iv_kf mi := f5.resolve_left (by rw [hfin]; decide)
      refine va_putF (D := D) (ci := ci) (fs := fs.map (iv_v ad)) (v := iv_v ad v) (ty := iv_ft ci j) hx hb hts c1 (iv_ft ci) c2 c3 hown hK.1 hP hD hS k (iv_w_get f2) g1 j g2 (hts _ g3) (fun x h9 => h9) ((c8 j g2).2.trans hfin) (hini hf.1) ((c8 j g2).1.trans (c9.trans (by rw [hf.2]))) (c2 j g2) n1 n2 (by rw [List.length_map]; exact f3) (iv_d3 hcd rfl) (fun H1 locs1 p1 d1 s1 => ?_)
      rw [e9] at p1 d1
      exact iv_kkS hef I p1 d1 s1 gs.tl.tl gc kk
  | new idx =>
    obtain ⟨ci, e1, e_1⟩ := Option.bind_eq_some_iff.mp hop
    cases e_1
    obtain ⟨C, T, N, g1, g2⟩ := iv_fN e1
    obtain ⟨c1, c2, -, c4, c5, c6, c7, -, -, c10⟩ := iv_fC g1
    have hh : h' = h ++ [.inl (ci, iv_df ci)] := (Option.some.inj hef).symm
    have hc1 : cells + 1 ≤ R.cells := by rw [hh] at hrc; simpa using hrc
    have hs1 : slots + N ≤ R.slots := by rw [hh, iv_sz_app] at hrs; have : iv_cz (.inl (ci, iv_df ci)) = N := c6; omega
    have ed : (iv_df ci).map (iv_v ad) = iv_df ci := (List.map_congr_left fun v hv => iv_df_v (c10 v hv) ad).trans (List.map_id _)
    have k2 := fun (q : Nat) (H1 : Heap) (p1 : va_P D iv_cl (iv_w ad cO h ++ [(q, iv_e ad cO (.inl (ci, iv_df ci)))]) H1) (d1 : va_D A (iv_w ad cO h ++ [(q, iv_e ad cO (.inl (ci, iv_df ci)))])) (s1 : va_S A s.heap H1 locs) => iv_kkN (q := q) hef I p1 d1 s1 gs (fun v hv k hk => absurd hk (iv_df_r (c10 v hv) k)) kk
    have ee : iv_e ad cO (.inl (ci, iv_df ci)) = .inr (ci, iv_df ci) := by show Sum.inr (ci, (iv_df ci).map (iv_v ad)) = _; rw [ed]
    rw [ee, show iv_cz (.inl (ci, iv_df ci)) = N from c6] at k2
    exact va_new (ci := ci) (fs := iv_df ci) (D := D) hx hb hts c1 (iv_ft ci) c2 hown (hts _ g2) (hts _ c4) (hts _ c5) hK.1 hP hD hS hA g1 c7 hc1 hs1 (iv_d3 hcd rfl) k2
  | newarray a =>
    obtain ⟨n, r, rfl, e_1⟩ := iv_i_s hop
    split at e_1
    · rename_i hc
      obtain ⟨hc1, hc2, hc3⟩ := hc
      cases e_1
      obtain ⟨w1, w2, w3, w4⟩ := iv_fA hc3
      have hh : h' = h ++ [.inr (iv_tn a, iv_a0 (iv_tn a) n.toNatClampNeg)] := (Option.some.inj hef).symm
      have hz : iv_cz (.inr (iv_tn a, iv_a0 (iv_tn a) n.toNatClampNeg)) = n.toNatClampNeg := by show (iv_a0 _ _).1 = _; unfold iv_a0; split <;> rfl
      have hc1' : cells + 1 ≤ R.cells := by rw [hh] at hrc; simpa using hrc
      have hs1 : slots + n.toNatClampNeg ≤ R.slots := by rw [hh, iv_sz_app] at hrs; omega
      have ee : ∀ cA : ClassId, cA = cO (iv_tn a) → iv_e ad cO (.inr (iv_tn a, iv_a0 (iv_tn a) n.toNatClampNeg)) = .inl (cA, iv_a0 (iv_tn a) n.toNatClampNeg) := by
        intro cA hcA
        subst hcA
        unfold iv_a0
        split <;> rfl
      have gc : iv_gc h.length (.inr (iv_tn a, iv_a0 (iv_tn a) n.toNatClampNeg)) := by unfold iv_a0; split <;> trivial
      refine va_newa (D := D) (a0 := iv_a0 (iv_tn a) n.toNatClampNeg) (N' := n.toNatClampNeg) hx hb (hts _ w1) rfl hK.1 hP hD hS hA (w3 n.toNatClampNeg) (Int32.not_lt.mpr hc1) rfl (w4 _ hc2) hc1' hs1 (iv_d2 hcd rfl) (fun q cA H1 k1 p1 d1 s1 => ?_)
      have hcA := iv_K_new hK w2 k1
      rw [← ee cA hcA] at p1 d1
      have k2 := iv_kkN (q := q) hef I p1 d1 s1 gs.tl gc kk
      rw [hz] at k2
      exact k2
    · cases e_1
  | anewarray idx =>
    obtain ⟨n, r, rfl, e_1⟩ := iv_i_s hop
    obtain ⟨t, e1, e_2⟩ := Option.bind_eq_some_iff.mp e_1
    split at e_2
    · rename_i hc
      obtain ⟨hc1, hc2⟩ := hc
      cases e_2
      obtain ⟨C, w1, w2, w3⟩ := iv_fQ e1
      have hh : h' = h ++ [.inr (t, n.toNatClampNeg, .inr (.inr (.inr (.inr (fun _ => none)))))] := (Option.some.inj hef).symm
      have hc1' : cells + 1 ≤ R.cells := by rw [hh] at hrc; simpa using hrc
      have hs1 : slots + n.toNatClampNeg ≤ R.slots := by rw [hh, iv_sz_app] at hrs; have : iv_cz (.inr (t, n.toNatClampNeg, .inr (.inr (.inr (.inr (fun _ => none)))))) = n.toNatClampNeg := rfl; omega
      refine va_newq (D := D) (C := C) (N' := n.toNatClampNeg) hx hb hown (hts _ w2) (hK.2.1 C w3) hK.1 hP hD hS hA (Int32.not_lt.mpr hc1) rfl (by omega) hc1' hs1 (iv_d3 hcd rfl) (fun q cA H1 k1 p1 d1 s1 => ?_)
      have hcA := iv_K_new hK w1 k1
      subst hcA
      exact iv_kkN (q := q) (cl := .inr (t, n.toNatClampNeg, .inr (.inr (.inr (.inr (fun _ => none)))))) hef I p1 d1 s1 gs.tl (fun j k hk => by cases hk) kk
    · cases e_2
  | arraylength =>
    rcases iv_alen_s hop with ⟨k, r, a, rfl, f1, ⟨ty, f2⟩, rfl⟩ | ⟨k, r, q, rfl, hz, rfl⟩
    · cases hef
      exact va_alen (D := D) (x := iv_a ad a.2) hx hb hK.1 hP k a.1 (iv_w_get f1) (iv_tys_get f2) (by obtain ⟨t, n, f | f | f | f | f⟩ := a <;> rfl) (iv_d1 hcd rfl) (iv_kk0 I hl ga (.cons (iv_g_i _ _) gs.tl) kk)
    · cases hef
      obtain ⟨x1, x2, x3⟩ := hZ q hz
      exact va_slen hx hb x1 x2 x3 hS (iv_d1 hcd rfl) (iv_kk0 I hl ga (.cons (iv_g_i _ _) gs.tl) kk)
  | iaload =>
    rcases iv_iald_s hop with ⟨i, k, r, q, rfl, hz, hin, rfl⟩ | hop
    · cases hef
      obtain ⟨x1, x2, x3⟩ := hZ q hz
      exact va_sld hx hb x1 x2 x3 hS (iv_in_s hin) (iv_d1 hcd rfl) (iv_kk0 I hl ga (.cons (iv_g_i _ _) gs.tl.tl) kk)
    · obtain ⟨i, k, r, t, n, f, rfl, f1, f2, f3, rfl⟩ := iv_ald_s hop
      cases hef
      exact va_iald (D := D) hx hb hK.1 hP k t (iv_w_get f1) (iv_tys_get f3) f2 (iv_d1 hcd rfl) (iv_kk0 I hl ga (.cons (iv_g_i _ _) gs.tl.tl) kk)
  | baload =>
    rcases iv_bald_s hop with hop | hop
    · obtain ⟨i, k, r, t, n, f, rfl, f1, f2, f3, rfl⟩ := iv_ald_s hop
      cases hef
      exact va_bald (D := D) hx hb hK.1 hP k t (iv_w_get f1) (iv_tys_get f3) f2 (iv_d1 hcd rfl) (iv_kk0 I hl ga (.cons (iv_g_i _ _) gs.tl.tl) kk)
    · obtain ⟨i, k, r, t, n, f, rfl, f1, f2, f3, rfl⟩ := iv_ald_s hop
      cases hef
      exact va_zald (D := D) hx hb hK.1 hP k t (iv_w_get f1) (iv_tys_get f3) f2 (iv_d1 hcd rfl) (iv_kk0 I hl ga (.cons (iv_g_i _ _) gs.tl.tl) kk)
  | iastore =>
    obtain ⟨x, i, k, r, t, n, f, rfl, f1, f2, f3, rfl⟩ := iv_ast_s hop
    refine va_iast (D := D) hx hb hK.1 hP hD hS k t (iv_w_get f1) (iv_tys_get f3) f2 (iv_d1 hcd rfl) (fun H1 locs1 p1 d1 s1 => ?_)
    have e9 : (iv_w ad cO h).set k (ad (some k), .inl (cO t, n, .inl (upd f i.toNatClampNeg (vp_nar .int x)))) = iv_w ad cO (h.set k (.inr (t, n, .inl (upd f i.toNatClampNeg (vp_nar .int x))))) := iv_w_set ad cO h k (.inr (t, n, .inl (upd f i.toNatClampNeg (vp_nar .int x))))
    exact iv_kkS hef I (e9 ▸ p1) (e9 ▸ d1) s1 gs.tl.tl.tl trivial kk
  | bastore =>
    rcases iv_bast_s hop with hop | hop
    · obtain ⟨x, i, k, r, t, n, f, rfl, f1, f2, f3, rfl⟩ := iv_ast_s hop
      refine va_bast (D := D) hx hb hK.1 hP hD hS k t (iv_w_get f1) (iv_tys_get f3) f2 (iv_d1 hcd rfl) (fun H1 locs1 p1 d1 s1 => ?_)
      have e9 : (iv_w ad cO h).set k (ad (some k), .inl (cO t, n, .inl (upd f i.toNatClampNeg (vp_nar .byte x)))) = iv_w ad cO (h.set k (.inr (t, n, .inl (upd f i.toNatClampNeg (vp_nar .byte x))))) := iv_w_set ad cO h k (.inr (t, n, .inl (upd f i.toNatClampNeg (vp_nar .byte x))))
      exact iv_kkS hef I (e9 ▸ p1) (e9 ▸ d1) s1 gs.tl.tl.tl trivial kk
    · obtain ⟨x, i, k, r, t, n, f, rfl, f1, f2, f3, rfl⟩ := iv_ast_s hop
      refine va_zast (D := D) hx hb hK.1 hP hD hS k t (iv_w_get f1) (iv_tys_get f3) f2 (iv_d1 hcd rfl) (fun H1 locs1 p1 d1 s1 => ?_)
      have e9 : (iv_w ad cO h).set k (ad (some k), .inl (cO t, n, .inl (upd f i.toNatClampNeg (vp_nar .boolean x)))) = iv_w ad cO (h.set k (.inr (t, n, .inl (upd f i.toNatClampNeg (vp_nar .boolean x))))) := iv_w_set ad cO h k (.inr (t, n, .inl (upd f i.toNatClampNeg (vp_nar .boolean x))))
      exact iv_kkS hef I (e9 ▸ p1) (e9 ▸ d1) s1 gs.tl.tl.tl trivial kk
  | laload =>
    obtain ⟨i, r1, rfl, e_1⟩ := iv_i_s hop
    obtain ⟨k, r, rfl, e_2⟩ := iv_r_s e_1
    obtain ⟨q, e1, e_3⟩ := Option.bind_eq_some_iff.mp e_2
    split at e_3
    · rename_i hc
      obtain rfl := iv_pj_s e_3
      cases hef
      exact va_lald (D := D) hx hb hK.1 hP k q.1 (iv_w_get (iv_aj_s e1)) (iv_tys_get (iv_is_s hc.2)) (iv_in_s hc.1) (iv_d1 hcd rfl) (iv_kk0 I hl ga (.cons (iv_g_j _ _) gs.tl.tl) kk)
    · cases e_3
  | lastore =>
    obtain ⟨x, r2, rfl, e_1⟩ := iv_j_s hop
    obtain ⟨i, r1, rfl, e_2⟩ := iv_i_s e_1
    obtain ⟨k, r, rfl, e_3⟩ := iv_r_s e_2
    obtain ⟨q, e1, e_4⟩ := Option.bind_eq_some_iff.mp e_3
    split at e_4
    · rename_i hc
      cases e_4
      refine va_last (D := D) hx hb hK.1 hP hD hS k q.1 (iv_w_get (iv_aj_s e1)) (iv_tys_get (iv_is_s hc.2)) (iv_in_s hc.1) (iv_d1 hcd rfl) (fun H1 locs1 p1 d1 s1 => ?_)
      have e9 : (iv_w ad cO h).set k (ad (some k), .inl (cO q.1, q.2.1, .inr (.inl (vp_updL q.2.2 i.toNatClampNeg x)))) = iv_w ad cO (h.set k (.inr (q.1, q.2.1, .inr (.inl (vp_updL q.2.2 i.toNatClampNeg x))))) := iv_w_set ad cO h k (.inr (q.1, q.2.1, .inr (.inl (vp_updL q.2.2 i.toNatClampNeg x))))
      exact iv_kkS hef I (e9 ▸ p1) (e9 ▸ d1) s1 gs.tl.tl.tl trivial kk
    · cases e_4
  | aaload =>
    obtain ⟨i, r1, rfl, e_1⟩ := iv_i_s hop
    obtain ⟨k, r, rfl, e_2⟩ := iv_r_s e_1
    obtain ⟨q, e1, e_3⟩ := Option.bind_eq_some_iff.mp e_2
    split at e_3
    · rename_i hc
      obtain ⟨C, hC⟩ := iv_iq_s hc.2
      split at e_3
      · rename_i b hb2
        cases e_3
        cases hef
        refine va_aldq (D := D) hx hb hK.1 hP k q.1 (iv_w_get (iv_aq_s e1)) (iv_tys_get hC) (iv_in_s hc.1) (iv_d1 hcd rfl) ?_
        have e9 : va_rf ((q.2.2 i.toNatClampNeg).map (fun k => ad (some k))) = iv_v ad (.ref b) := by rw [hb2]; rfl
        show W p l e R s m args below meth c H locs cells slots Q (F0 m (pc + 1) ls (va_rf ((q.2.2 i.toNatClampNeg).map (fun k => ad (some k))) :: r.map (iv_v ad)))
        rw [e9]
        exact iv_kk0 I hl ga (.cons (iv_g_r (gh k _ (iv_aq_s e1) _ _ hb2)) gs.tl.tl) kk
      · cases e_3
    · cases e_3
  | aastore =>
    obtain ⟨b, r2, rfl, e_1⟩ := iv_r_s hop
    obtain ⟨i, r1, rfl, e_2⟩ := iv_i_s e_1
    obtain ⟨k, r, rfl, e_3⟩ := iv_r_s e_2
    obtain ⟨q, e1, e_4⟩ := Option.bind_eq_some_iff.mp e_3
    split at e_4
    · rename_i hc
      cases e_4
      obtain ⟨ci, fs, rr, g1, g2, g3⟩ := iv_qc_s hc.2
      refine va_astq (D := D) hx hb hK.1 hP hD hS k q.1 b ci (iv_w_get (iv_aq_s e1)) (iv_tys_get g3) (iv_w_get g1) g2 (iv_in_s hc.1) (iv_d1 hcd rfl) (fun H1 locs1 p1 d1 s1 => ?_)
      have e8 : va_up (fun j => (q.2.2 j).map (fun k => ad (some k))) i.toNatClampNeg (some (ad (some b))) = fun j => ((va_up q.2.2 i.toNatClampNeg (some b)) j).map (fun k => ad (some k)) := by
        funext j
        unfold va_up
        split <;> rfl
      have e9 : (iv_w ad cO h).set k (ad (some k), .inl (cO q.1, q.2.1, .inr (.inr (.inr (.inr (va_up (fun j => (q.2.2 j).map (fun k => ad (some k))) i.toNatClampNeg (some (ad (some b))))))))) = iv_w ad cO (h.set k (.inr (q.1, q.2.1, .inr (.inr (.inr (.inr (va_up q.2.2 i.toNatClampNeg (some b)))))))) := by
        rw [e8]
        exact iv_w_set ad cO h k (.inr (q.1, q.2.1, .inr (.inr (.inr (.inr (va_up q.2.2 i.toNatClampNeg (some b)))))))
      refine iv_kkS hef I (e9 ▸ p1) (e9 ▸ d1) s1 gs.tl.tl.tl (fun j x hj => ?_) kk
      unfold va_up at hj
      split at hj
      · cases hj; exact gs.hd _ rfl
      · exact gh k _ (iv_aq_s e1) j x hj
    · cases e_4
  | invokespecial idx =>
    obtain ⟨h1, k, r, rfl, hr8, e_1⟩ := iv_oi_s hop
    cases e_1
    cases hef
    obtain ⟨w1, w2, w3⟩ := iv_fO h1
    obtain ⟨r1, r2⟩ := hR
    refine W.objInit hx hb hown (hts _ w1) (hts _ w2) (hts _ w3) rfl (by rw [hml]; exact hl.1) rfl (iv_d3 hcd rfl) r1 ?_ (iv_kk0 I hl ga gs.tl kk)
    show 2 * 0 + _ + 12 ≤ _
    rw [iv_cats]
    omega
  | invokestatic idx =>
    rcases iv_cpy_s hop with ⟨h1, n, dp, b, sp, a, r, q, u, rfl, f1, f2, z1, z2, z3, z4, z5, z6, z7, z8, e_1⟩ | ⟨h0, h1, y, x, r, rfl, h8, e_1⟩ | ⟨h0, h2, h1, y, x, r, rfl, h8, e_1⟩ | ⟨h0, h1, x, r, rfl, h8, e_1⟩ | ⟨h0, h1, x, r, rfl, h8, e_1⟩ | hjc
    · cases e_1
      obtain ⟨w1, w2, w3, w4⟩ := iv_fY h1
      obtain ⟨r1, r2⟩ := hR
      refine va_copyi (D := D) (ty := .int) hx hb (by rw [hml]; exact hl.1.symm) hown (hts _ w1) (hts _ w2) (hts _ w3) (hts _ w4) hK.1 hP hD hS a b q.1 u.1 (iv_w_get f1) (iv_w_get f2) (iv_tys_get z6) (iv_tys_get z7) rfl z1 z2 z3 z4 z5 (fun _ _ => rfl) r1 (by rw [iv_cats]; have := iv_nfw; omega) (iv_d3 hcd rfl) (fun H1 locs1 p1 d1 s1 => ?_)
      have e9 : (iv_w ad cO h).set b (ad (some b), .inl (cO u.1, u.2.1, .inl (va_cpy q.2.2 u.2.2 sp.toNatClampNeg dp.toNatClampNeg n.toNatClampNeg))) = iv_w ad cO (h.set b (.inr (u.1, u.2.1, .inl (va_cpy q.2.2 u.2.2 sp.toNatClampNeg dp.toNatClampNeg n.toNatClampNeg)))) := iv_w_set ad cO h b (.inr (u.1, u.2.1, .inl (va_cpy q.2.2 u.2.2 sp.toNatClampNeg dp.toNatClampNeg n.toNatClampNeg)))
      exact iv_kkS hef I (e9 ▸ p1) (e9 ▸ d1) s1 gs.tl.tl.tl.tl.tl trivial kk
    · cases e_1
      cases hef
      obtain ⟨w1, w2, w3, w4⟩ := iv_fMm h1
      obtain ⟨r1, r2⟩ := hR
      exact va_mmin hx hb (by rw [hml]; exact hl.1.symm) hown (hts _ w1) (hts _ w2) (hts _ w3) (hts _ w4) r1 (by rw [iv_cats]; omega) (by omega) (by omega) (iv_d3 hcd rfl) (iv_kk0 I hl ga (.cons (iv_g_i _ _) gs.tl.tl) kk)
    · cases e_1
      cases hef
      obtain ⟨w1, w2, w3, w4⟩ := iv_fMx h1
      obtain ⟨r1, r2⟩ := hR
      exact va_mmax hx hb (by rw [hml]; exact hl.1.symm) hown (hts _ w1) (hts _ w2) (hts _ w3) (hts _ w4) r1 (by rw [iv_cats]; omega) (by omega) (by omega) (iv_d3 hcd rfl) (iv_kk0 I hl ga (.cons (iv_g_i _ _) gs.tl.tl) kk)
    · cases e_1
      cases hef
      obtain ⟨w1, w2, w3, w4⟩ := iv_fAb h1
      obtain ⟨r1, r2⟩ := hR
      exact va_mabs hx hb (by rw [hml]; exact hl.1.symm) hown (hts _ w1) (hts _ w2) (hts _ w3) (hts _ w4) r1 (by rw [iv_cats]; omega) (by omega) (by omega) (iv_d3 hcd rfl) (iv_kk0 I hl ga (.cons (iv_g_i _ _) gs.tl) kk)
    · cases e_1
      cases hef
      obtain ⟨w1, w2, w3, w4⟩ := iv_fAl h1
      obtain ⟨r1, r2⟩ := hR
      exact va_mabs_long hx hb (by rw [hml]; exact hl.1.symm) hown (hts _ w1) (hts _ w2) (hts _ w3) (hts _ w4) r1 (by rw [iv_cats]; omega) (by omega) (by omega) (iv_d3 hcd rfl) (iv_kk0 I hl ga (.cons (iv_g_j _ _) gs.tl) kk)
    · obtain ⟨r, h8, ⟨h1, x, hx9, rfl, rfl⟩ | ⟨h1, x, hx9, rfl, rfl⟩ | ⟨h1, x, hx9, rfl, rfl⟩ | ⟨h1, x, hx9, rfl, rfl⟩⟩ := id_jc_s hjc
      · cases hef
        obtain ⟨w1, w2, w3⟩ := id_w2 id_ckD hts
        exact vd_dtl hx hb (by rw [hml]; exact hl.1.symm) hown (hts _ (id_fJ h1)) w1 w2 w3 (by omega) (by omega) (by omega) (by omega) hx9 (by rw [iv_cats]; exact h8) (iv_d3 hcd rfl) (iv_kk0 I hl ga (.cons (iv_g_j _ _) gs.tl) kk)
      · cases hef
        obtain ⟨w1, w2, w3⟩ := id_w2 id_ckF hts
        exact vd_fti hx hb (by rw [hml]; exact hl.1.symm) hown (hts _ (id_fJ h1)) w1 w2 w3 (by omega) (by omega) (by omega) (by omega) hx9 (by rw [iv_cats]; exact h8) (iv_d3 hcd rfl) (iv_kk0 I hl ga (.cons (iv_g_i _ _) gs.tl) kk)
      · cases hef
        obtain ⟨w1, w2, w3⟩ := id_w2 id_ckA hts
        exact vd_abs hx hb (by rw [hml]; exact hl.1.symm) hown (hts _ (id_fJ h1)) w1 w2 w3 (by omega) (by omega) hx9 (by rw [iv_cats]; exact h8) (iv_d3 hcd rfl) (iv_kk0 I hl ga (.cons (iv_g_d _ _) gs.tl) kk)
      · cases hef
        obtain ⟨w1, w2, w3⟩ := id_w2 id_ckG hts
        exact vd_floor hx hb (by rw [hml]; exact hl.1.symm) hown (hts _ (id_fJ h1)) w1 w2 w3 (va_Z.kept hV fun a g1 g2 => hS.2.1 a g1 g2) (by omega) (by omega) (by omega) (by omega) hx9 (by rw [iv_cats]; exact h8) (iv_d3 hcd rfl) (iv_kk0 I hl ga (.cons (iv_g_d _ _) gs.tl) kk)
  | _ =>
    have hop : (none : Option iv_O) = some o := hop
    cases hop
end IVS
end
section
/-! A RUN OF THE INTERPRETER IS A RUN OF THE MACHINE -/
theorem iv_GI {ws : List Cond} (h : ∀ w ∈ ws, w ∈ iv_Wd) : GoodIn iv_Wd ws := fun w hw => ⟨h w hw, good_of_word (List.mem_filter.mp (h w hw)).2⟩
def iv_rm (d mc ms : Nat) : Room := { frames := d + 6, cells := mc, slots := ms, locals := 40 * d + 2000 }
def iv_ws (mi : Nat) : List Cond := Cond.code (iv_y mi) (iv_by mi) (iv_mx mi) (iv_rt mi) :: iv_Wd
/-- at a run's end: references are numbers of cells -/
def iv_gr (r : Option Value × iv_H) : Prop := iv_gl r.2.length r.1.toList ∧ iv_gh r.2.length r.2
theorem iv_gl_app {n : Nat} {a b : List Value} (h1 : iv_gl n a) (h2 : iv_gl n b) : iv_gl n (a ++ b) := fun v hv => by
  rcases List.mem_append.mp hv with h | h
  · exact h1 v h
  · exact h2 v h
def iv_Qc (D : va_G) (cO : Nat → ClassId) (A : Nat → Prop) (ad : iv_A) (n : Nat) (r : Option Value × iv_H) : Array Value → State → Outcome → State → Prop := fun _ st oc t =>
  (∃ ad' : iv_A, oc = .returned (r.1.map (iv_v ad')) ∧ iv_ag n ad ad' ∧ iv_gr r ∧ va_P D iv_cl (iv_w ad' cO r.2) t.heap ∧ va_D A (iv_w ad' cO r.2)) ∧ va_F A st t
def iv_Pc (D : va_G) (cO : Nat → ClassId) (ad : iv_A) (vs : List Value) (h : iv_H) (sz : Nat) : Array Value → State → Prop :=
  va_Pc (vs.map (iv_v ad)) (fun U => U.heap.size = sz ∧ va_P D iv_cl (iv_w ad cO h) U.heap ∧ iv_K D cO U ∧ va_D (fun _ => True) (iv_w ad cO h) ∧ vd_AD (va_A (iv_w ad cO h) sz) U U.heap)
theorem iv_Pc_blind {D : va_G} {cO : Nat → ClassId} {ad : iv_A} {vs : List Value} {h : iv_H} {sz : Nat} : FrameBlind (iv_Pc D cO ad vs h sz) := fun _ _ _ _ q => ⟨q.1, q.2.1, q.2.2.1, q.2.2.2.1.blind, q.2.2.2.2.1, va_Z.moved (Vm.Alike.refl _) q.2.2.2.2.2⟩
theorem iv_cat_v (v : Value) : v.category = 1 ∨ v.category = 2 := lv_cat v
theorem iv_ex_sub (ad : iv_A) : ∀ (vs : List Value) (k i : Nat) (v : Value), (iv_ex vs)[i]? = some (some v) → (k + i, iv_v ad v) ∈ lv_args k (vs.map (iv_v ad)) := by
  intro vs
  induction vs with
  | nil => intro k i v h; simp [iv_ex] at h
  | cons a r ih =>
    intro k i v h
    rw [List.map_cons]
    unfold lv_args
    rw [iv_v_cat]
    unfold iv_ex at h
    by_cases hc : a.category = 2
    · rw [if_pos hc] at h ⊢
      match i, h with
      | 0, h => cases h; exact List.mem_cons_self
      | 1, h => cases h
      | i + 2, h =>
        have q := ih (k + 2) i v (by simpa using h)
        rw [show k + (i + 2) = k + 2 + i by omega]
        exact List.mem_cons_of_mem _ q
    · rw [if_neg hc] at h ⊢
      match i, h with
      | 0, h => cases h; exact List.mem_cons_self
      | i + 1, h =>
        have q := ih (k + 1) i v (by simpa using h)
        rw [show k + (i + 1) = k + 1 + i by omega]
        exact List.mem_cons_of_mem _ q
theorem iv_ex_mem {vs : List Value} {i : Nat} {v : Value} (h : (iv_ex vs)[i]? = some (some v)) : v ∈ vs := by
  induction vs generalizing i with
  | nil => simp [iv_ex] at h
  | cons a r ih =>
    unfold iv_ex at h
    split at h
    · match i, h with
      | 0, h => cases h; exact List.mem_cons_self
      | 1, h => cases h
      | i + 2, h => exact List.mem_cons_of_mem _ (ih (i := i) (by simpa using h))
    · match i, h with
      | 0, h => cases h; exact List.mem_cons_self
      | i + 1, h => exact List.mem_cons_of_mem _ (ih (i := i) (by simpa using h))
theorem iv_en_get {mj i : Nat} {vs : List Value} {v : Value} (h : (iv_en mj vs)[i]? = some (some v)) : (iv_ex vs)[i]? = some (some v) := by
  unfold iv_en at h
  by_cases hi : i < (iv_ex vs).length
  · rw [List.getElem?_append_left hi] at h
    exact h
  · rw [List.getElem?_append_right (by omega), List.getElem?_replicate] at h
    split at h <;> cases h
theorem iv_ex_cons (a : Value) (r : List Value) : iv_ex (a :: r) = if a.category = 2 then some a :: none :: iv_ex r else some a :: iv_ex r := rfl
theorem iv_sl_len (ad : iv_A) : ∀ vs : List Value, (lg_sl (vs.map (iv_v ad))).length = (iv_ex vs).length := by
  intro vs
  induction vs with
  | nil => rfl
  | cons a r ih =>
    have e : lg_sl ((a :: r).map (iv_v ad)) = (if (iv_v ad a).category = 2 then [Slot.val (iv_v ad a), .second] else [.val (iv_v ad a)]) ++ lg_sl (r.map (iv_v ad)) := by
      simp [lg_sl]
    rw [e, iv_v_cat, List.length_append, ih, iv_ex_cons]
    split
    · simp only [List.length_cons, List.length_nil]; omega
    · simp only [List.length_cons, List.length_nil]; omega
/-- what a run says of the machine -/
def iv_SD (z : iv_Z) (d mi : Nat) (S : iv_S) (r : Option Value × iv_H) : Prop :=
  Unit → ∀ {p : Program} {l : Launch} {e : Env} {R : Room} {s : State} {m : MethodId} {args : Array Value} {below : List Frame} {meth : Method} {c : Code} {H : Heap} {locs : List Loc} {cells slots mc ms : Nat} {Q : State → Prop} {D : va_G} {cO : Nat → ClassId} {A : Nat → Prop} {ad : iv_A} {ls : Array Slot},
  iv_X D cO p s m args meth c mi → iv_I D cO A s.heap mi ad S.2.1 S.2.2.1 S.2.2.2 H locs ls → (∀ q, s.heap.size ≤ q → A q) →
  (∀ q, z = some q → va_X (ad none) q.1 q.2 s s.heap ∧ ad none < s.heap.size ∧ ¬ A (ad none)) →
  cells + (r.2.length - S.2.2.2.length) ≤ mc → slots + (iv_sz r.2 - iv_sz S.2.2.2) ≤ ms → mc ≤ R.cells → ms ≤ R.slots → d + 6 ≤ R.frames → 40 * d + 2000 ≤ R.locals → vd_AD A s s.heap →
  (∀ (ad' : iv_A) (H' : Heap) (locs' : List Loc) (ls' : Array Slot) (pc' : Nat) (op : Jvm.ClassFile.Instr) (st' : List Value), iv_cd mi pc' = some op → iv_re mi op st' = some r.1 → iv_ag S.2.2.2.length ad ad' → iv_gr r → va_P D iv_cl (iv_w ad' cO r.2) H' → va_D A (iv_w ad' cO r.2) → va_S A s.heap H' locs' → W p l e R s m args below meth c H' locs' mc ms Q (F0 m pc' ls' (st'.map (iv_v ad')))) →
  W p l e R s m args below meth c H locs cells slots Q (F0 m S.1 ls (S.2.2.1.map (iv_v ad)))
theorem iv_re_v {mi : Nat} {op : Jvm.ClassFile.Instr} {st : List Value} {v : Option Value} (h : iv_re mi op st = some v) : (op = .return_ ∧ st = [] ∧ v = none ∧ iv_rt mi = none) ∨ (∃ x ty, op = .ireturn ∧ st = [.int x] ∧ v = some (.int x) ∧ iv_rt mi = some ty ∧ iv_ok ty (.int x) = true) ∨ (∃ x, op = .lreturn ∧ st = [.long x] ∧ v = some (.long x) ∧ iv_rt mi = some .long) ∨ (∃ x ty, op = .areturn ∧ st = [.ref x] ∧ v = some (.ref x) ∧ iv_rt mi = some ty ∧ ((∃ n, ty = .object n) ∨ ∃ t, ty = .array t)) := by
  unfold iv_re at h
  split at h
  · split at h
    · split at h
      · cases h; exact Or.inl ⟨rfl, rfl, rfl, by assumption⟩
      · cases h
    · cases h
  · split at h
    · split at h
      · rename_i x hr
        cases h
        unfold iv_ro at hr
        split at hr
        · rename_i ty hty
          exact Or.inr (Or.inl ⟨x, ty, rfl, rfl, rfl, hty, hr⟩)
        · cases hr
      · cases h
    · cases h
  · split at h
    · split at h
      · rename_i x hr
        cases h
        unfold iv_ro at hr
        split at hr
        · rename_i ty hty
          cases ty with
          | long => exact Or.inr (Or.inr (Or.inl ⟨x, rfl, rfl, rfl, hty⟩))
          | _ => cases hr
        · cases hr
      · cases h
    · cases h
  · split at h
    · split at h
      · rename_i x hr
        cases h
        unfold iv_rq at hr
        split at hr
        · rename_i n hty
          exact Or.inr (Or.inr (Or.inr ⟨x, _, rfl, rfl, rfl, hty, Or.inl ⟨n, rfl⟩⟩))
        · rename_i n hty
          exact Or.inr (Or.inr (Or.inr ⟨x, _, rfl, rfl, rfl, hty, Or.inr ⟨n, rfl⟩⟩))
        · cases hr
      · cases h
    · cases h
  · cases h
theorem iv_d1' {mi pc : Nat} {op : Jvm.ClassFile.Instr} (h : iv_cd mi pc = some op) (e : iv_n op = 1) : decode (iv_by mi) pc = .ok (op, 1) := iv_d1 h e
set_option maxHeartbeats 2000000 in
theorem iv_met {l : Launch} {D : va_G} {cO : Nat → ClassId} {ad : iv_A} {d mj sz : Nat} {vs : List Value} {h : iv_H} {q : Option Value × iv_H} (hSD : iv_SD none d mj (0, iv_en mj vs, [], h) q) (hj : Cond.code (iv_y mj) (iv_by mj) (iv_mx mj) (iv_rt mj) ∈ iv_Wd) (hpl : plainName (iv_y mj).cls = true) (hcn : (iv_y mj).cls = iv_cn (iv_kf mj)) (hin : iv_ini mj = true → (iv_y mj).name = "<init>") (hlen : (iv_ex vs).length ≤ iv_mx mj) (hg : iv_gl h.length vs) (hgh : iv_gh h.length h) :
    Met l (iv_y mj) (iv_ws mj) (iv_rm d (q.2.length - h.length) (iv_sz q.2 - iv_sz h)) (iv_Pc D cO ad vs h sz) (iv_Qc D cO (va_A (iv_w ad cO h) sz) ad h.length q) (q.2.length - h.length) (iv_sz q.2 - iv_sz h) (va_A (iv_w ad cO h) sz) := by
  refine Met.ofW (cc := iv_by mj) (maxL := iv_mx mj) (ret := iv_rt mj) hpl rfl ?_
  intro p e s m args below meth c s₁ B hml hv
  obtain ⟨rfl, hsz, hP, hK, hD0, hV⟩ := hv
  subst hsz
  have hts := atoms_spec (ws := iv_ws mj) B.pre
  have hown : s.vm.findClass (iv_y mj).cls = some m.cls := findClass_of_methodNamed B.named
  have hlocks := B.notSynchronized
  have hnm : meth.name = (iv_y mj).name := (name_of_methodNamed B.named B.method).1
  rw [lg_entry_eq]
  have hl0 := lv_entry (vs.map (iv_v ad)) (n := iv_mx mj) (by rw [iv_sl_len]; exact hlen)
  have hl := iv_lv_sub (l' := iv_ll ad (iv_en mj vs)) hl0 (fun x hx => by
    obtain ⟨v, h1, h2⟩ := iv_ll_mem.mp hx
    have h3 := iv_ex_sub ad vs 0 x.1 v (iv_en_get h1)
    rw [Nat.zero_add, ← h2] at h3
    exact h3)
  have hD := hD0.self (sz := s.heap.size)
  have X : iv_X D cO p s m (vs.map (iv_v ad)).toArray meth c mj := ⟨B.exec, B.bytes, hml, by rw [← hcn]; exact hown, fun w hw => hts w (List.mem_cons_of_mem _ hw), fun hi => hnm.trans (hin hi), hK⟩
  refine hSD () X ⟨hP, hD, va_S.rf, hl, fun i v hv => hg v (iv_ex_mem (iv_en_get hv)), iv_gl_nil _, hgh⟩ (fun q h => Or.inr h) (fun q hq => by cases hq) (mc := q.2.length - h.length) (ms := iv_sz q.2 - iv_sz h) (by show 0 + (q.2.length - h.length) ≤ _; omega) (by show 0 + (iv_sz q.2 - iv_sz h) ≤ _; omega) (Nat.le_refl _) (Nat.le_refl _) (Nat.le_refl _) (Nat.le_refl _) hV ?_
  intro ad' H' locs' ls' pc' op st' hcd hre hag hgr p1 d1 s1
  have hr := B.returns
  have hx := B.exec
  have hb : c.code = iv_by mj := B.bytes
  have fin : ∀ (v : Option Value), v = q.1.map (iv_v ad') → ∀ t : State, t.heap = H' → s.WarmedH t.vm → iv_Qc D cO (va_A (iv_w ad cO h) s.heap.size) ad h.length q (vs.map (iv_v ad)).toArray s (.returned v) t := fun v hv t ht hW => ⟨⟨ad', by rw [hv], hag, hgr, by rw [ht]; exact p1, d1⟩, s1.F ht⟩
  rcases iv_re_v hre with ⟨rfl, rfl, hv, hrt⟩ | ⟨x, ty, rfl, rfl, hv, hrt, hok⟩ | ⟨x, rfl, rfl, hv, hrt⟩ | ⟨x, ty, rfl, rfl, hv, hrt, hk⟩
  · exact W.vret hx hb (hr.trans hrt) (fin none (by rw [hv]; rfl)) s1.2.2 (iv_d1 hcd rfl) hlocks
  · exact W.zret hx hb (hr.trans hrt) (iv_ok_nf hok ad').1 (fin (some (.int x)) (by rw [hv]; rfl)) s1.2.2 (iv_d1 hcd rfl) hlocks
  · exact W.lret hx hb (hr.trans hrt) (fin (some (.long x)) (by rw [hv]; rfl)) s1.2.2 (iv_d1 hcd rfl) hlocks
  · exact W.aret hx hb (hr.trans hrt) hk (Or.inr ⟨ad' (some x), rfl⟩) (fin (some (.ref (ad' (some x)))) (by rw [hv]; rfl)) s1.2.2 (iv_d1 hcd rfl) hlocks
theorem iv_ca_s {mi : Nat} {op : Jvm.ClassFile.Instr} {st : List Value} {h : iv_H} {c : Nat × List Value × List Value} (e : iv_ca mi op st h = some c) : ∃ (idx mj : Nat) (as rest : List Value), iv_mt (iv_kf mi) idx = some mj ∧ as.length = iv_na mj ∧ iv_nr as = true ∧ (rest.map fun v => v.category).sum ≤ 8 ∧
    ((op = .invokestatic idx ∧ iv_rc mj = none ∧ iv_ini mj = false ∧ st = as.reverse ++ rest ∧ c = (mj, as, rest) ∧ (iv_ex as).length ≤ iv_mx mj) ∨
     (∃ b ci, iv_rc mj = some ci ∧ iv_oc h b ci = true ∧ st = as.reverse ++ .ref b :: rest ∧ c = (mj, .ref b :: as, rest) ∧ (iv_ex as).length + 1 ≤ iv_mx mj ∧ ((op = .invokevirtual idx ∧ iv_ini mj = false ∧ iv_nn (iv_kf mi) idx = none) ∨ (op = .invokespecial idx ∧ iv_ini mj = true)))) := by
  unfold iv_ca at e
  split at e
  · cases e
  · rename_i q hq
    split at e
    · cases e
    · rename_i mj hmj
      split at e
      · rename_i hc
        obtain ⟨c1, c2, c3⟩ := hc
        have hst : st = (st.take (iv_na mj)).reverse.reverse ++ st.drop (iv_na mj) := by rw [List.reverse_reverse, List.take_append_drop]
        have hnr : iv_nr (st.take (iv_na mj)).reverse = true := by
          unfold iv_nr at c2 ⊢
          rw [List.all_reverse]; exact c2
        have hln : (st.take (iv_na mj)).reverse.length = iv_na mj := by rw [List.length_reverse]; exact c1
        split at e
        · rename_i h2
          split at e
          · rename_i h3
            cases e
            refine ⟨q.2, mj, (st.take (iv_na mj)).reverse, st.drop (iv_na mj), hmj, hln, hnr, h3.2.2, Or.inl ⟨?_, h3.1, h3.2.1, hst, rfl, ?_⟩⟩
            · unfold iv_cc at hq
              split at hq <;> cases hq
              · cases h2
              · cases h2
              · rfl
            · rw [iv_rx_n h3.1] at c3; omega
          · cases e
        · rename_i h2
          obtain ⟨b, rest, hb, e⟩ := iv_r_s e
          split at e
          · cases e
          · rename_i ci hci
            split at e
            · rename_i h3
              cases e
              obtain ⟨g1, g2, g3, g4⟩ := h3
              refine ⟨q.2, mj, (st.take (iv_na mj)).reverse, rest, hmj, hln, hnr, g2, Or.inr ⟨b, ci, hci, g1, by rw [← hb]; exact hst, rfl, ?_, ?_⟩⟩
              · rw [iv_rx_s hci] at c3; omega
              · unfold iv_cc at hq
                split at hq
                · cases hq
                  exact Or.inl ⟨rfl, by rw [g3]; rfl, g4.resolve_left (by show ¬ (0 : Nat) = 1; decide)⟩
                · cases hq
                  exact Or.inr ⟨rfl, by rw [g3]; rfl⟩
                · cases hq
                  exact absurd rfl h2
                · cases hq
            · cases e
      · cases e
section IVC
variable {p : Program} {l : Launch} {e : Env} {R : Room} {s : State} {m : MethodId} {args : Array Value} {below : List Frame} {meth : Method} {c : Code} {H : Heap} {locs : List Loc} {cells slots : Nat} {Q : State → Prop}
theorem iv_callg {D : va_G} {cO : Nat → ClassId} {ad : iv_A} {n : Nat} {r : Option Value × iv_H} {a : Array Value} {A0 A1 : Nat → Prop} {H0 : Heap} {mc ms pc : Nat} {ls : Array Slot} {st0 rest : List Value} (hr : va_Run p l e R s m args below meth c H locs cells slots mc ms (F0 m pc ls st0) rest (iv_Qc D cO A1 ad n r a) A1) (hS : va_S A0 H0 H locs) (hf : ∀ q, A1 q → A0 q)
    (kk : ∀ (ad' : iv_A) (H1 : Heap) (locs1 : List Loc), iv_ag n ad ad' → iv_gr r → va_P D iv_cl (iv_w ad' cO r.2) H1 → va_D A0 (iv_w ad' cO r.2) → va_S A0 H0 H1 locs1 → W p l e R s m args below meth c H1 locs1 (cells + mc) (slots + ms) Q (F0 m (pc + 3) ls ((r.1.map (iv_v ad')).toList ++ rest))) : W p l e R s m args below meth c H locs cells slots Q (F0 m pc ls st0) := by
  intro T hT X
  obtain ⟨v, st₀, t, T', L, h0, X', hL, e1, e2, ⟨⟨ad', hv, b1, b2, b3, b4⟩, hz, hk⟩, st⟩ := hr T hT X
  cases hv
  rw [h0] at hz hk
  obtain ⟨t2, a1, b1⟩ := kk ad' T'.heap (locs ++ L) b1 b2 (by rw [e1]; exact b3) (b4.weaken (fun _ q _ h => hf q.1 h))
    ⟨Nat.le_trans hS.1 (by rw [e1]; exact hz), fun q h1 h2 => by rw [e1, hk q (Nat.lt_of_lt_of_le h1 hS.1) (fun z => h2 (hf q z))]; exact hS.2.1 q h1 h2, fun q hq => by
      rcases List.mem_append.mp hq with h | h
      · exact hS.2.2 q h
      · exact hf _ (hL q h)⟩ T' rfl X'
  exact ⟨t2, st t2 a1, b1⟩
end IVC
theorem iv_oc_s {h : iv_H} {b ci : Nat} (e : iv_oc h b ci = true) : ∃ fs, h[b]? = some (.inl (ci, fs)) := by
  unfold iv_oc at e
  split at e
  · rename_i o ho
    have := of_decide_eq_true e
    subst this
    exact ⟨o.2, ho⟩
  · cases e
set_option maxHeartbeats 4000000 in
set_option maxRecDepth 20000 in
theorem iv_sound : ∀ (n : Nat) (z : iv_Z) (d mi : Nat) (S : iv_S) (r : Option Value × iv_H), iv_run z n d mi S = some r → iv_SD z d mi S r := by
  intro n
  induction n with
  | zero => intro z d mi S r h; cases h
  | succ n ih =>
    intro z d mi S r h
    unfold iv_run at h
    split at h
    · cases h
    · rename_i op hcd
      split at h
      · rename_i hret
        obtain ⟨v, hv, rfl⟩ := Option.map_eq_some_iff.mp h
        intro _ p l e R s m args below meth c H locs cells slots mc ms Q D cO A ad ls X I hA hZ h1 h2 h3 h4 h5 h6 hV hEnd
        obtain ⟨hP, hD, hS, hl, ga, gs, gh⟩ := id I
        have hg : iv_gr (v, S.2.2.2) := by
          refine ⟨?_, gh⟩
          rcases iv_re_v hv with ⟨_, _, rfl, _⟩ | ⟨x, ty, _, e1, rfl, _⟩ | ⟨x, _, e1, rfl, _⟩ | ⟨x, ty, _, e1, rfl, _⟩
          · exact iv_gl_nil _
          · rw [e1] at gs; exact gs
          · rw [e1] at gs; exact gs
          · rw [e1] at gs; exact gs
        refine W.widen (k := mc) (n := ms) (by omega) (by omega) ?_
        exact hEnd ad H locs ls S.1 op S.2.2.1 hcd hv iv_ag.rf hg hP hD hS
      · split at h
        · rename_i c0 hca
          split at h
          · cases h
          · rename_i d'
            split at h
            · cases h
            · rename_i q hq
              intro _ p l e R s m args below meth c H locs cells slots mc ms Q D cO A ad ls X I hA hZ h1 h2 h3 h4 h5 h6 hV hEnd
              obtain ⟨hP, hD, hS, hl, ga, gs, gh⟩ := id I
              obtain ⟨hx, hb, hml, hown, hts, hini, hK⟩ := id X
              have la := iv_run_le _ _ _ _ _ _ hq
              have lb : q.2.length ≤ r.2.length ∧ iv_sz q.2 ≤ iv_sz r.2 := iv_run_le _ _ _ _ _ _ h
              dsimp only at la
              have hSD : iv_SD none d' c0.1 (0, iv_en c0.1 c0.2.1, [], S.2.2.2) q := ih none d' c0.1 _ q hq
              obtain ⟨idx, mj, as, rest, t1, t2, t3, t4, t5⟩ := iv_ca_s hca
              obtain ⟨u1, u2, u3⟩ := iv_fT t1
              obtain ⟨f1, f2, f3, f4, f5, f6, f7, f8⟩ := iv_fM u1.1 u1.2
              have hF : ∀ x, va_A (iv_w ad cO S.2.2.2) H.size x → A x := by
                intro x hx1
                rcases hx1 with ⟨k, e1, hk⟩ | hx1
                · exact hD.2 k (x, e1) hk
                · exact hA x (Nat.le_trans hS.1 hx1)
              have hrest : ∀ {as' : List Value}, S.2.2.1 = as'.reverse ++ rest → iv_gl S.2.2.2.length rest := fun hst v hv => gs v (by rw [hst]; exact List.mem_append_right _ hv)
              have hroom : (iv_rm d' (q.2.length - S.2.2.2.length) (iv_sz q.2 - iv_sz S.2.2.2)).frames + 1 ≤ R.frames ∧ 8 + (iv_mx mj + 11) + (iv_rm d' (q.2.length - S.2.2.2.length) (iv_sz q.2 - iv_sz S.2.2.2)).locals ≤ R.locals := by
                refine ⟨by show d' + 6 + 1 ≤ R.frames; omega, ?_⟩
                show 8 + (iv_mx mj + 11) + (40 * d' + 2000) ≤ R.locals
                omega
              have hcs : cells + (q.2.length - S.2.2.2.length) ≤ R.cells ∧ slots + (iv_sz q.2 - iv_sz S.2.2.2) ≤ R.slots := by omega
              have K : iv_gl S.2.2.2.length rest → ∀ (ad' : iv_A) (H1 : Heap) (locs1 : List Loc), iv_ag S.2.2.2.length ad ad' → iv_gr q → va_P D iv_cl (iv_w ad' cO q.2) H1 → va_D A (iv_w ad' cO q.2) → va_S A s.heap H1 locs1 → W p l e R s m args below meth c H1 locs1 (cells + (q.2.length - S.2.2.2.length)) (slots + (iv_sz q.2 - iv_sz S.2.2.2)) Q (F0 m (S.1 + 3) ls ((q.1.map (iv_v ad')).toList ++ rest.map (iv_v ad))) := by
                intro grest ad' H1 locs1 ag hgr p1 d1 s1
                have e1 : (q.1.toList ++ rest).map (iv_v ad') = (q.1.map (iv_v ad')).toList ++ rest.map (iv_v ad) := by
                  rw [List.map_append, iv_st_ag ag grest]
                  cases q.1 <;> rfl
                rw [← e1]
                have hc2 : c0.2.2 = rest := by rcases t5 with ⟨_, _, _, _, rfl, _⟩ | ⟨_, _, _, _, _, rfl, _⟩ <;> rfl
                rw [hc2] at h
                exact ih z (d' + 1) mi (S.1 + 3, S.2.1, q.1.toList ++ rest, q.2) r h () X ⟨p1, d1, s1, iv_ll_ag ag ga hl, ga.mono la.1, iv_gl_app hgr.1 (grest.mono la.1), hgr.2⟩ hA (fun y hy => by obtain ⟨x1, x2, x3⟩ := hZ y hy; rw [ag.1]; exact ⟨x1, x2, x3⟩) (by show _ + _ + (r.2.length - q.2.length) ≤ mc; omega) (by show _ + _ + (iv_sz r.2 - iv_sz q.2) ≤ ms; omega) h3 h4 h5 h6 hV
                  (fun ad2 H2 locs2 ls2 pc2 op2 st2 g1 g2 g3 g4 g5 g6 g7 => hEnd ad2 H2 locs2 ls2 pc2 op2 st2 g1 g2 (ag.tr g3 la.1) g4 g5 g6 g7)
              have hPc : ∀ (vs : List Value) (U : State), U.heap = H → s.WarmedH U.vm → iv_Pc D cO ad vs S.2.2.2 H.size ((vs.map (iv_v ad)).toArray) U := fun vs U hU hW => ⟨rfl, by rw [hU], by rw [hU]; exact hP, hK.warm hW, hD.weaken (fun _ _ _ _ => trivial), by rw [hU]; exact va_Z.moved hW.alike (va_Z.narrow (va_Z.kept hV fun a g1 g2 => hS.2.1 a g1 g2) hF)⟩
              rcases t5 with ⟨rfl, rc, ri, hst, rfl, hmx⟩ | ⟨b, ci, rc, hoc, hst, rfl, hmx, hkind⟩
              · have gas : iv_gl S.2.2.2.length as := fun v hv => gs v (by rw [hst]; exact List.mem_append_left _ (List.mem_reverse.mpr hv))
                have hM := iv_met (l := l) (D := D) (cO := cO) (ad := ad) (sz := H.size) hSD f1 f3 f6 (fun z => by rw [ri] at z; cases z) hmx gas gh
                have hstack : (F0 m S.1 ls (S.2.2.1.map (iv_v ad))).stack = (as.map (iv_v ad)).reverse ++ rest.map (iv_v ad) := by
                  show S.2.2.1.map (iv_v ad) = _
                  rw [hst, List.map_append, List.map_reverse]
                cases hnn : iv_nn (iv_kf mi) idx with
                | none => exact iv_callg (va_runS (As := as.map (iv_v ad)) (rest := rest.map (iv_v ad)) ⟨hx, hb, hml, hown, hts⟩ hM ⟨callB_of (iv_na mj) hts (iv_GI (fun w hw => by rcases List.mem_cons.mp hw with rfl | hw; exact f1; exact hw)) rfl rfl rfl (hts _ f2) (hts _ (u2 hnn)) f4 hroom, hts _ (f7 rc).1⟩ ⟨iv_Pc_blind, hPc as⟩ rfl (by rw [List.length_map]; exact t2) hl.1 hstack (lv_room (by rw [iv_cats]; exact t4)) (iv_d3 hcd rfl) hcs) hS hF (K (hrest hst))
                | some host => exact iv_callg (va_runSN (As := as.map (iv_v ad)) (rest := rest.map (iv_v ad)) ⟨hx, hb, hml, hown, hts⟩ hM ⟨va_cnB (iv_na mj) hts (iv_GI (fun w hw => by rcases List.mem_cons.mp hw with rfl | hw; exact f1; exact hw)) rfl rfl rfl (hK.2.2 _ (u3 host hnn)) (hts _ f2) f4 hroom, hts _ (f7 rc).1, trivial⟩ ⟨iv_Pc_blind, hPc as⟩ rfl (by rw [List.length_map]; exact t2) hl.1 hstack (lv_room (by rw [iv_cats]; exact t4)) (iv_d3 hcd rfl) hcs) hS hF (K (hrest hst))
              · obtain ⟨fs, hfs⟩ := iv_oc_s hoc
                obtain ⟨k1, ⟨T, N, k2⟩, k3, k4⟩ := f8 ci rc
                have gas : iv_gl S.2.2.2.length (.ref b :: as) := by
                  intro v hv
                  rcases List.mem_cons.mp hv with rfl | hv
                  · exact gs _ (by rw [hst]; exact List.mem_append_right _ List.mem_cons_self)
                  · exact gs v (by rw [hst]; exact List.mem_append_left _ (List.mem_reverse.mpr hv))
                have hlen : (iv_ex (.ref b :: as)).length ≤ iv_mx mj := by
                  show (some (Value.ref b) :: iv_ex as).length ≤ _
                  rw [List.length_cons]; exact hmx
                have grest : iv_gl S.2.2.2.length rest := fun v hv => gs v (by rw [hst]; exact List.mem_append_right _ (List.mem_cons_of_mem _ hv))
                have hM := iv_met (l := l) (D := D) (cO := cO) (ad := ad) (sz := H.size) hSD f1 f3 f6 (fun z => (k3 z).1) hlen gas gh
                have hstack : (F0 m S.1 ls (S.2.2.1.map (iv_v ad))).stack = (as.map (iv_v ad)).reverse ++ .ref (ad (some b)) :: rest.map (iv_v ad) := by
                  show S.2.2.1.map (iv_v ad) = _
                  rw [hst, List.map_append, List.map_reverse]
                  rfl
                rcases hkind with ⟨rfl, ri, hnn⟩ | ⟨rfl, ri⟩
                · refine iv_callg (va_runV (C := (iv_y mj).cls) (As := as.map (iv_v ad)) (rest := rest.map (iv_v ad)) ⟨hx, hb, hml, hown, hts⟩ hM (cwV (iv_na mj) hts (iv_GI (fun w hw => ?_)) rfl rfl rfl ⟨rfl, f4⟩ hroom) ⟨iv_Pc_blind, va_recv hK.1 hP k2 (iv_w_get hfs), hPc (.ref b :: as)⟩ rfl (by rw [List.length_map]; exact t2) hl.1 hstack (lv_room (by rw [iv_cats]; exact t4)) (iv_d3 hcd rfl) hcs) hS hF (K grest)
                  simp only [wsV, List.mem_append, List.mem_cons, List.not_mem_nil, or_false] at hw
                  rcases hw with (rfl | rfl | rfl | rfl) | hw
                  · exact u2 hnn
                  · exact k1
                  · exact k4 ri
                  · exact f2
                  · rcases List.mem_cons.mp hw with rfl | hw
                    · exact f1
                    · exact hw
                · obtain ⟨nm, rt⟩ := k3 ri
                  have hws : iv_ws mj = Cond.code (iv_y mj) (iv_by mj) (iv_mx mj) none :: iv_Wd := by unfold iv_ws; rw [rt]
                  cases hnn : iv_nn (iv_kf mi) idx with
                  | none => exact iv_callg (va_runI (As := as.map (iv_v ad)) (rest := rest.map (iv_v ad)) ⟨hx, hb, hml, hown, hts⟩ hM ⟨callB_of (iv_na mj) hts (iv_GI (fun w hw => by rcases List.mem_cons.mp hw with rfl | hw; exact f1; exact hw)) hws rfl rfl (hts _ f2) (hts _ (u2 hnn)) f4 hroom, nm, hts _ k1⟩ ⟨iv_Pc_blind, hPc (.ref b :: as)⟩ rfl (by rw [List.length_map]; exact t2) hl.1 hstack (lv_room (by rw [iv_cats]; exact t4)) (iv_d3 hcd rfl) hcs) hS hF (K grest)
                  | some host => exact iv_callg (va_runIN (As := as.map (iv_v ad)) (rest := rest.map (iv_v ad)) ⟨hx, hb, hml, hown, hts⟩ hM ⟨va_cnB (iv_na mj) hts (iv_GI (fun w hw => by rcases List.mem_cons.mp hw with rfl | hw; exact f1; exact hw)) hws rfl rfl (hK.2.2 _ (u3 host hnn)) (hts _ f2) f4 hroom, nm, hts _ k1⟩ ⟨iv_Pc_blind, hPc (.ref b :: as)⟩ rfl (by rw [List.length_map]; exact t2) hl.1 hstack (lv_room (by rw [iv_cats]; exact t4)) (iv_d3 hcd rfl) hcs) hS hF (K grest)
        · split at h
          · cases h
          · rename_i o hop
            split at h
            · cases h
            · rename_i h' hef
              intro _ p l e R s m args below meth c H locs cells slots mc ms Q D cO A ad ls X I hA hZ h1 h2 h3 h4 h5 h6 hV hEnd
              have la := iv_ef_le hef
              have lb : h'.length ≤ r.2.length ∧ iv_sz h' ≤ iv_sz r.2 := iv_run_le _ _ _ _ _ _ h
              refine iv_step hop hef hcd X I hA hZ (by omega) (by omega) ⟨by omega, by omega⟩ hV (fun ad' H' locs' ls' ag I' => ?_)
              exact ih z d mi (o.1, o.2.1, o.2.2.1, h') r h () X I' hA (fun y hy => by obtain ⟨x1, x2, x3⟩ := hZ y hy; rw [ag.1]; exact ⟨x1, x2, x3⟩) (by show _ + _ + (r.2.length - h'.length) ≤ mc; omega) (by show _ + _ + (iv_sz r.2 - iv_sz h') ≤ ms; omega) h3 h4 h5 h6 hV
                (fun ad2 H2 locs2 ls2 pc2 op2 st2 g1 g2 g3 g4 g5 g6 g7 => hEnd ad2 H2 locs2 ls2 pc2 op2 st2 g1 g2 (ag.tr g3 la.1) g4 g5 g6 g7)
end
