/-! ROWS of doubles and floats -/
section
variable {z : iv_Z} {mi d pc p : Nat} {al al' : iv_L} {r : List Value} {σ τ σ2 : fx_S} {v : Option Value}
theorem fs_dconst {n : Fin 2} {x : UInt64} (hc : iv_cd mi pc = some (.dconst n)) (hp : pc + 1 = p) (hx : (bif Nat.beq (n : Nat) 0 then FP.dconst0 else FP.dconst1) = x) (E : fx_E z mi d p al (.double x :: r) σ v τ) : fx_E z mi d pc al (r) σ v τ := by
  subst hp hx
  exact fx_p hc rfl (fun _ => rfl) (fun _ => rfl) E
theorem fs_ldc2d {idx : Nat} {x : UInt64} (hc : iv_cd mi pc = some (.ldc2_w idx)) (hp : pc + 3 = p) (h0 : iv_l2 (iv_kf mi) idx = none) (hx : id_lc (iv_kf mi) idx = some x) (E : fx_E z mi d p al (.double x :: r) σ v τ) : fx_E z mi d pc al (r) σ v τ := by
  subst hp
  exact fx_p hc rfl (fun _ => rfl) (fun _ => (by show id_l2 mi (pc + 3) idx al r = _; unfold id_l2; rw [h0]; dsimp only; rw [hx]; rfl)) E
theorem fs_dload_n {k : Fin 4} {x : UInt64} (hc : iv_cd mi pc = some (.dload_n k)) (hp : pc + 1 = p) (hl : al[(k : Nat)]? = some (some (.double x))) (E : fx_E z mi d p al (.double x :: r) σ v τ) : fx_E z mi d pc al (r) σ v τ := by
  subst hp
  exact fx_p hc rfl (fun _ => rfl) (fun _ => (by show id_ld al (k : Nat) _ = _; unfold id_ld; rw [hl]; rfl)) E
theorem fs_dload {k : Nat} {x : UInt64} (hc : iv_cd mi pc = some (.dload k)) (hp : pc + 2 = p) (hl : al[(k : Nat)]? = some (some (.double x))) (E : fx_E z mi d p al (.double x :: r) σ v τ) : fx_E z mi d pc al (r) σ v τ := by
  subst hp
  exact fx_p hc rfl (fun _ => rfl) (fun _ => (by show id_ld al (k : Nat) _ = _; unfold id_ld; rw [hl]; rfl)) E
theorem fs_fload_n {k : Fin 4} {x : UInt32} (hc : iv_cd mi pc = some (.fload_n k)) (hp : pc + 1 = p) (hl : al[(k : Nat)]? = some (some (.float x))) (E : fx_E z mi d p al (.float x :: r) σ v τ) : fx_E z mi d pc al (r) σ v τ := by
  subst hp
  exact fx_p hc rfl (fun _ => rfl) (fun _ => (by show id_lf al (k : Nat) _ = _; unfold id_lf; rw [hl]; rfl)) E
theorem fs_dstore_n {k : Fin 4} {x : UInt64} {M : Nat} (hc : iv_cd mi pc = some (.dstore_n k)) (hp : pc + 1 = p) (hm : iv_mx mi = M) (hk : Nat.ble ((k : Nat) + 2) M = true) (ha : fx_s2 al (k : Nat) (.double x) = al') (E : fx_E z mi d p al' (r) σ v τ) : fx_E z mi d pc al (.double x :: r) σ v τ := by
  subst hp ha
  refine fx_p hc rfl (fun _ => rfl) (fun _ => ?_) E
  show iv_sl mi (k : Nat) 1 _ = _
  unfold iv_sl
  rw [hm, if_pos (show (k : Nat) + 1 < M from Nat.le_of_ble_eq_true hk), fx_s2_s]
theorem fs_dstore {k : Nat} {x : UInt64} {M : Nat} (hc : iv_cd mi pc = some (.dstore k)) (hp : pc + 2 = p) (hm : iv_mx mi = M) (hk : Nat.ble ((k : Nat) + 2) M = true) (ha : fx_s2 al (k : Nat) (.double x) = al') (E : fx_E z mi d p al' (r) σ v τ) : fx_E z mi d pc al (.double x :: r) σ v τ := by
  subst hp ha
  refine fx_p hc rfl (fun _ => rfl) (fun _ => ?_) E
  show iv_sl mi (k : Nat) 1 _ = _
  unfold iv_sl
  rw [hm, if_pos (show (k : Nat) + 1 < M from Nat.le_of_ble_eq_true hk), fx_s2_s]
theorem fs_dadd {x y : UInt64} (hc : iv_cd mi pc = some .dadd) (hp : pc + 1 = p) (hn : id_n6 (FP.dadd x y) = true) (E : fx_E z mi d p al (.double (FP.dadd x y) :: r) σ v τ) : fx_E z mi d pc al (.double y :: .double x :: r) σ v τ := by
  subst hp
  exact fx_p hc rfl (fun _ => rfl) (fun _ => (by show (if id_n6 (FP.dadd x y) = true then _ else none) = _; rw [if_pos hn]; rfl)) E
theorem fs_dsub {x y : UInt64} (hc : iv_cd mi pc = some .dsub) (hp : pc + 1 = p) (hn : id_n6 (FP.dsub x y) = true) (E : fx_E z mi d p al (.double (FP.dsub x y) :: r) σ v τ) : fx_E z mi d pc al (.double y :: .double x :: r) σ v τ := by
  subst hp
  exact fx_p hc rfl (fun _ => rfl) (fun _ => (by show (if id_n6 (FP.dsub x y) = true then _ else none) = _; rw [if_pos hn]; rfl)) E
theorem fs_dmul {x y : UInt64} (hc : iv_cd mi pc = some .dmul) (hp : pc + 1 = p) (hn : id_n6 (FP.dmul x y) = true) (E : fx_E z mi d p al (.double (FP.dmul x y) :: r) σ v τ) : fx_E z mi d pc al (.double y :: .double x :: r) σ v τ := by
  subst hp
  exact fx_p hc rfl (fun _ => rfl) (fun _ => (by show (if id_n6 (FP.dmul x y) = true then _ else none) = _; rw [if_pos hn]; rfl)) E
theorem fs_ddiv {x y : UInt64} (hc : iv_cd mi pc = some .ddiv) (hp : pc + 1 = p) (hn : id_n6 (FP.ddiv x y) = true) (E : fx_E z mi d p al (.double (FP.ddiv x y) :: r) σ v τ) : fx_E z mi d pc al (.double y :: .double x :: r) σ v τ := by
  subst hp
  exact fx_p hc rfl (fun _ => rfl) (fun _ => (by show (if id_n6 (FP.ddiv x y) = true then _ else none) = _; rw [if_pos hn]; rfl)) E
theorem fs_drem {x y : UInt64} (hc : iv_cd mi pc = some .drem) (hp : pc + 1 = p) (hn : id_n6 (FP.drem x y) = true) (E : fx_E z mi d p al (.double (FP.drem x y) :: r) σ v τ) : fx_E z mi d pc al (.double y :: .double x :: r) σ v τ := by
  subst hp
  exact fx_p hc rfl (fun _ => rfl) (fun _ => (by show (if id_n6 (FP.drem x y) = true then _ else none) = _; rw [if_pos hn]; rfl)) E
theorem fs_dcmp {x y : UInt64} {c : CmpOp} (hc : iv_cd mi pc = some (.dcmp c)) (hp : pc + 1 = p) (E : fx_E z mi d p al (.int (Op.cmpValue (FP.dcmp x y) c) :: r) σ v τ) : fx_E z mi d pc al (.double y :: .double x :: r) σ v τ := by
  subst hp
  exact fx_p hc rfl (fun _ => rfl) (fun _ => rfl) E
theorem fs_i2d {x : Int32} (hc : iv_cd mi pc = some .i2d) (hp : pc + 1 = p) (E : fx_E z mi d p al (.double (FP.i2d x) :: r) σ v τ) : fx_E z mi d pc al (.int x :: r) σ v τ := by
  subst hp
  exact fx_p hc rfl (fun _ => rfl) (fun _ => rfl) E
theorem fs_l2d {x : Int64} (hc : iv_cd mi pc = some .l2d) (hp : pc + 1 = p) (E : fx_E z mi d p al (.double (FP.l2d x) :: r) σ v τ) : fx_E z mi d pc al (.long x :: r) σ v τ := by
  subst hp
  exact fx_p hc rfl (fun _ => rfl) (fun _ => rfl) E
theorem fs_d2l {x : UInt64} (hc : iv_cd mi pc = some .d2l) (hp : pc + 1 = p) (E : fx_E z mi d p al (.long (FP.d2l x) :: r) σ v τ) : fx_E z mi d pc al (.double x :: r) σ v τ := by
  subst hp
  exact fx_p hc rfl (fun _ => rfl) (fun _ => rfl) E
theorem fs_d2f {x : UInt64} (hc : iv_cd mi pc = some .d2f) (hp : pc + 1 = p) (hn : id_n3 (FP.d2f x) = true) (E : fx_E z mi d p al (.float (FP.d2f x) :: r) σ v τ) : fx_E z mi d pc al (.double x :: r) σ v τ := by
  subst hp
  exact fx_p hc rfl (fun _ => rfl) (fun _ => (by show (if id_n3 (FP.d2f x) = true then _ else none) = _; rw [if_pos hn]; rfl)) E
theorem fs_f2d {x : UInt32} (hc : iv_cd mi pc = some .f2d) (hp : pc + 1 = p) (hn : id_n6 (FP.f2d x) = true) (E : fx_E z mi d p al (.double (FP.f2d x) :: r) σ v τ) : fx_E z mi d pc al (.float x :: r) σ v τ := by
  subst hp
  exact fx_p hc rfl (fun _ => rfl) (fun _ => (by show (if id_n6 (FP.f2d x) = true then _ else none) = _; rw [if_pos hn]; rfl)) E
theorem fx_jd {k idx : Nat} {st : List Value} {h : iv_H} {o : iv_O} (hq : (!(iv_cp (iv_kf mi) idx) && !(iv_mm (iv_kf mi) idx) && !(iv_ma (iv_kf mi) idx) && (iv_mt (iv_kf mi) idx).isNone && decide (id_dj (iv_kf mi) idx = some k)) = true) (ho : id_cl k pc al st = some o) : iv_ca z mi (.invokestatic idx) st h = none ∧ iv_op z mi pc (.invokestatic idx) al st h = some o := by
  simp only [Bool.and_eq_true, Bool.not_eq_true', decide_eq_true_eq] at hq
  obtain ⟨⟨⟨⟨q1, q2⟩, q3⟩, q6⟩, q7⟩ := hq
  have q8 : iv_mt (iv_kf mi) idx = none := Option.isNone_iff_eq_none.mp q6
  constructor
  · unfold iv_ca
    show (match iv_mt (iv_kf mi) idx with
      | none => none
      | some mj => _) = none
    rw [q8]
  · show (if iv_cp (iv_kf mi) idx = true then iv_cpy z pc al _ h else if iv_mm (iv_kf mi) idx = true then iv_min pc al st else if iv_ma (iv_kf mi) idx = true then iv_max pc al st else id_jc mi pc idx al st) = _
    rw [if_neg (by rw [q1]; decide), if_neg (by rw [q2]; decide), if_neg (by rw [q3]; decide)]
    unfold id_jc
    rw [q7]
    exact ho
theorem fx_c8 {c : Bool} (hc : c = true) (hr : Nat.ble (r.map fun v => v.category).sum 8 = true) : (c && id_c8 r) = true := by
  rw [hc, Bool.true_and]
  exact decide_eq_true (Nat.le_of_ble_eq_true hr)
theorem fs_jdk1 {idx : Nat} {x : UInt64} (hc : iv_cd mi pc = some (.invokestatic idx)) (hp : pc + 3 = p) (hq : (!(iv_cp (iv_kf mi) idx) && !(iv_mm (iv_kf mi) idx) && !(iv_ma (iv_kf mi) idx) && (iv_mt (iv_kf mi) idx).isNone && decide (id_dj (iv_kf mi) idx = some 1)) = true) (hr : Nat.ble (r.map fun v => v.category).sum 8 = true) (hn : id_n6 x = true) (E : fx_E z mi d p al (.long x.toInt64 :: r) σ v τ) : fx_E z mi d pc al (.double x :: r) σ v τ := by
  subst hp
  have ho : id_cl 1 pc al (.double x :: r) = some (pc + 3, al, .long x.toInt64 :: r, none) := by
    show (if (id_n6 x && id_c8 r) = true then _ else none) = _
    rw [if_pos (fx_c8 hn hr)]
    rfl
  exact fx_p hc rfl (fun h => (fx_jd (z := z) hq ho).1) (fun h => (fx_jd hq ho).2) E
theorem fs_jdk2 {idx : Nat} {x : UInt32} (hc : iv_cd mi pc = some (.invokestatic idx)) (hp : pc + 3 = p) (hq : (!(iv_cp (iv_kf mi) idx) && !(iv_mm (iv_kf mi) idx) && !(iv_ma (iv_kf mi) idx) && (iv_mt (iv_kf mi) idx).isNone && decide (id_dj (iv_kf mi) idx = some 2)) = true) (hr : Nat.ble (r.map fun v => v.category).sum 8 = true) (hn : id_n3 x = true) (E : fx_E z mi d p al (.int x.toInt32 :: r) σ v τ) : fx_E z mi d pc al (.float x :: r) σ v τ := by
  subst hp
  have ho : id_cl 2 pc al (.float x :: r) = some (pc + 3, al, .int x.toInt32 :: r, none) := by
    show (if (id_n3 x && id_c8 r) = true then _ else none) = _
    rw [if_pos (fx_c8 hn hr)]
    rfl
  exact fx_p hc rfl (fun h => (fx_jd (z := z) hq ho).1) (fun h => (fx_jd hq ho).2) E
end
