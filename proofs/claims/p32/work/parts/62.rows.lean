/-! ROWS: an instruction each, from fx_E of what comes behind it -/
section
variable {z : iv_Z} {mi d pc p : Nat} {al al' : iv_L} {r : List Value} {σ τ σ2 : fx_S} {v : Option Value}
theorem fs_iconst {n : Int} {x : Int32} (hc : iv_cd mi pc = some (.iconst n)) (hp : pc + 1 = p) (hx : Int32.ofInt n = x) (E : fx_E z mi d p al (.int x :: r) σ v τ) : fx_E z mi d pc al (r) σ v τ := by
  subst hp
  subst hx
  exact fx_p hc rfl (fun _ => rfl) (fun _ => rfl) E
theorem fs_bipush {n : Int} {x : Int32} (hc : iv_cd mi pc = some (.bipush n)) (hp : pc + 2 = p) (hx : (Int8.ofInt n).toInt32 = x) (E : fx_E z mi d p al (.int x :: r) σ v τ) : fx_E z mi d pc al (r) σ v τ := by
  subst hp
  subst hx
  exact fx_p hc rfl (fun _ => rfl) (fun _ => rfl) E
theorem fs_sipush {n : Int} {x : Int32} (hc : iv_cd mi pc = some (.sipush n)) (hp : pc + 3 = p) (hx : (Int16.ofInt n).toInt32 = x) (E : fx_E z mi d p al (.int x :: r) σ v τ) : fx_E z mi d pc al (r) σ v τ := by
  subst hp
  subst hx
  exact fx_p hc rfl (fun _ => rfl) (fun _ => rfl) E
theorem fs_lconst {n : Fin 2} {x : Int64} (hc : iv_cd mi pc = some (.lconst n)) (hp : pc + 1 = p) (hx : Int64.ofNat (n : Nat) = x) (E : fx_E z mi d p al (.long x :: r) σ v τ) : fx_E z mi d pc al r σ v τ := by
  subst hp hx
  exact fx_p hc rfl (fun _ => rfl) (fun _ => rfl) E
theorem fs_ldc {idx : Nat} {x : Int32} (hc : iv_cd mi pc = some (.ldc idx)) (hp : pc + 2 = p) (hx : iv_lc (iv_kf mi) idx = some x) (E : fx_E z mi d p al (.int x :: r) σ v τ) : fx_E z mi d pc al r σ v τ := by
  subst hp
  exact fx_p hc rfl (fun _ => rfl) (fun _ => (by simp only [iv_op, iv_sem]; rw [hx]; rfl)) E
theorem fs_ldc2 {idx : Nat} {x : Int64} (hc : iv_cd mi pc = some (.ldc2_w idx)) (hp : pc + 3 = p) (hx : iv_l2 (iv_kf mi) idx = some x) (E : fx_E z mi d p al (.long x :: r) σ v τ) : fx_E z mi d pc al r σ v τ := by
  subst hp
  exact fx_p hc rfl (fun _ => rfl) (fun _ => (by show id_l2 mi (pc + 3) idx al _ = _; unfold id_l2; rw [hx]; rfl)) E
theorem fs_ldcw {idx : Nat} {x : Int32} (hc : iv_cd mi pc = some (.ldc_w idx)) (hp : pc + 3 = p) (hx : iv_lc (iv_kf mi) idx = some x) (E : fx_E z mi d p al (.int x :: r) σ v τ) : fx_E z mi d pc al r σ v τ := by
  subst hp
  exact fx_p hc rfl (fun _ => rfl) (fun _ => (by show (iv_lc (iv_kf mi) idx).bind _ = _; rw [hx]; rfl)) E
theorem fs_iload_n {k : Fin 4} {x : Int32} (hc : iv_cd mi pc = some (.iload_n k)) (hp : pc + 1 = p) (hl : al[(k : Nat)]? = some (some (.int x))) (E : fx_E z mi d p al (.int x :: r) σ v τ) : fx_E z mi d pc al r σ v τ := by
  subst hp
  exact fx_p hc rfl (fun _ => rfl) (fun _ => (by show iv_li al (k : Nat) _ = _; unfold iv_li; rw [hl]; rfl)) E
theorem fs_iload {k : Nat} {x : Int32} (hc : iv_cd mi pc = some (.iload k)) (hp : pc + 2 = p) (hl : al[(k : Nat)]? = some (some (.int x))) (E : fx_E z mi d p al (.int x :: r) σ v τ) : fx_E z mi d pc al r σ v τ := by
  subst hp
  exact fx_p hc rfl (fun _ => rfl) (fun _ => (by show iv_li al (k : Nat) _ = _; unfold iv_li; rw [hl]; rfl)) E
theorem fs_lload_n {k : Fin 4} {x : Int64} (hc : iv_cd mi pc = some (.lload_n k)) (hp : pc + 1 = p) (hl : al[(k : Nat)]? = some (some (.long x))) (E : fx_E z mi d p al (.long x :: r) σ v τ) : fx_E z mi d pc al r σ v τ := by
  subst hp
  exact fx_p hc rfl (fun _ => rfl) (fun _ => (by show iv_lj al (k : Nat) _ = _; unfold iv_lj; rw [hl]; rfl)) E
theorem fs_lload {k : Nat} {x : Int64} (hc : iv_cd mi pc = some (.lload k)) (hp : pc + 2 = p) (hl : al[(k : Nat)]? = some (some (.long x))) (E : fx_E z mi d p al (.long x :: r) σ v τ) : fx_E z mi d pc al r σ v τ := by
  subst hp
  exact fx_p hc rfl (fun _ => rfl) (fun _ => (by show iv_lj al (k : Nat) _ = _; unfold iv_lj; rw [hl]; rfl)) E
theorem fs_aload_n {k : Fin 4} {x : Nat} (hc : iv_cd mi pc = some (.aload_n k)) (hp : pc + 1 = p) (hl : al[(k : Nat)]? = some (some (.ref x))) (E : fx_E z mi d p al (.ref x :: r) σ v τ) : fx_E z mi d pc al r σ v τ := by
  subst hp
  exact fx_p hc rfl (fun _ => rfl) (fun _ => (by show iv_la al (k : Nat) (fun x => some (pc + 1, al, x :: r, (none : iv_F))) = _; unfold iv_la; rw [hl])) E
theorem fs_aload_n_a {k : Fin 4} {x : Nat} (hc : iv_cd mi pc = some (.aload_n k)) (hp : pc + 1 = p) (hl : al[(k : Nat)]? = some (some (.retAddr x))) (E : fx_E z mi d p al (.retAddr x :: r) σ v τ) : fx_E z mi d pc al r σ v τ := by
  subst hp
  exact fx_p hc rfl (fun _ => rfl) (fun _ => (by show iv_la al (k : Nat) (fun x => some (pc + 1, al, x :: r, (none : iv_F))) = _; unfold iv_la; rw [hl])) E
theorem fs_aload {k : Nat} {x : Nat} (hc : iv_cd mi pc = some (.aload k)) (hp : pc + 2 = p) (hl : al[(k : Nat)]? = some (some (.ref x))) (E : fx_E z mi d p al (.ref x :: r) σ v τ) : fx_E z mi d pc al r σ v τ := by
  subst hp
  exact fx_p hc rfl (fun _ => rfl) (fun _ => (by show iv_la al (k : Nat) (fun x => some (pc + 2, al, x :: r, (none : iv_F))) = _; unfold iv_la; rw [hl])) E
theorem fs_aload_a {k : Nat} {x : Nat} (hc : iv_cd mi pc = some (.aload k)) (hp : pc + 2 = p) (hl : al[(k : Nat)]? = some (some (.retAddr x))) (E : fx_E z mi d p al (.retAddr x :: r) σ v τ) : fx_E z mi d pc al r σ v τ := by
  subst hp
  exact fx_p hc rfl (fun _ => rfl) (fun _ => (by show iv_la al (k : Nat) (fun x => some (pc + 2, al, x :: r, (none : iv_F))) = _; unfold iv_la; rw [hl])) E
def fx_s1 (al : iv_L) (i : Nat) (w : Value) : iv_L := match i with
  | 0 => al.set 0 (some w)
  | j + 1 => match al[j]? with
    | some o => (al.set j (fx_kl o)).set (j + 1) (some w)
    | none => al.set (j + 1) (some w)
def fx_s2 (al : iv_L) (i : Nat) (w : Value) : iv_L := match i with
  | 0 => (al.set 1 none).set 0 (some w)
  | j + 1 => match al[j]? with
    | some o => ((al.set j (fx_kl o)).set (j + 2) none).set (j + 1) (some w)
    | none => (al.set (j + 2) none).set (j + 1) (some w)
theorem fx_s1_s (al : iv_L) (i : Nat) (w : Value) : iv_s1 al i w = fx_s1 al i w := by
  unfold iv_s1 fx_s1
  cases i with
  | zero => rfl
  | succ j =>
    rw [fx_k_s]
    dsimp only
    cases al[j]? <;> rfl
theorem fx_s2_s (al : iv_L) (i : Nat) (w : Value) : iv_s2 al i w = fx_s2 al i w := by
  unfold iv_s2 fx_s2
  cases i with
  | zero => rfl
  | succ j =>
    rw [fx_k_s]
    dsimp only
    cases al[j]? <;> rfl
theorem fs_istore_n {k : Fin 4} {x : Int32} {M : Nat} (hc : iv_cd mi pc = some (.istore_n k)) (hp : pc + 1 = p) (hm : iv_mx mi = M) (hk : Nat.ble ((k : Nat) + 1) M = true) (ha : fx_s1 al (k : Nat) (.int x) = al') (E : fx_E z mi d p al' r σ v τ) : fx_E z mi d pc al (.int x :: r) σ v τ := by
  subst hp ha
  refine fx_p hc rfl (fun _ => rfl) (fun _ => ?_) E
  show iv_sl mi (k : Nat) 0 _ = _
  unfold iv_sl
  rw [hm, if_pos (show (k : Nat) + 0 < M from Nat.le_of_ble_eq_true hk), fx_s1_s]
theorem fs_istore {k : Nat} {x : Int32} {M : Nat} (hc : iv_cd mi pc = some (.istore k)) (hp : pc + 2 = p) (hm : iv_mx mi = M) (hk : Nat.ble ((k : Nat) + 1) M = true) (ha : fx_s1 al (k : Nat) (.int x) = al') (E : fx_E z mi d p al' r σ v τ) : fx_E z mi d pc al (.int x :: r) σ v τ := by
  subst hp ha
  refine fx_p hc rfl (fun _ => rfl) (fun _ => ?_) E
  show iv_sl mi (k : Nat) 0 _ = _
  unfold iv_sl
  rw [hm, if_pos (show (k : Nat) + 0 < M from Nat.le_of_ble_eq_true hk), fx_s1_s]
theorem fs_lstore_n {k : Fin 4} {x : Int64} {M : Nat} (hc : iv_cd mi pc = some (.lstore_n k)) (hp : pc + 1 = p) (hm : iv_mx mi = M) (hk : Nat.ble ((k : Nat) + 2) M = true) (ha : fx_s2 al (k : Nat) (.long x) = al') (E : fx_E z mi d p al' r σ v τ) : fx_E z mi d pc al (.long x :: r) σ v τ := by
  subst hp ha
  refine fx_p hc rfl (fun _ => rfl) (fun _ => ?_) E
  show iv_sl mi (k : Nat) 1 _ = _
  unfold iv_sl
  rw [hm, if_pos (show (k : Nat) + 1 < M from Nat.le_of_ble_eq_true hk), fx_s2_s]
theorem fs_lstore {k : Nat} {x : Int64} {M : Nat} (hc : iv_cd mi pc = some (.lstore k)) (hp : pc + 2 = p) (hm : iv_mx mi = M) (hk : Nat.ble ((k : Nat) + 2) M = true) (ha : fx_s2 al (k : Nat) (.long x) = al') (E : fx_E z mi d p al' r σ v τ) : fx_E z mi d pc al (.long x :: r) σ v τ := by
  subst hp ha
  refine fx_p hc rfl (fun _ => rfl) (fun _ => ?_) E
  show iv_sl mi (k : Nat) 1 _ = _
  unfold iv_sl
  rw [hm, if_pos (show (k : Nat) + 1 < M from Nat.le_of_ble_eq_true hk), fx_s2_s]
theorem fs_astore_n {k : Fin 4} {x : Nat} {M : Nat} (hc : iv_cd mi pc = some (.astore_n k)) (hp : pc + 1 = p) (hm : iv_mx mi = M) (hk : Nat.ble ((k : Nat) + 1) M = true) (ha : fx_s1 al (k : Nat) (.ref x) = al') (E : fx_E z mi d p al' r σ v τ) : fx_E z mi d pc al (.ref x :: r) σ v τ := by
  subst hp ha
  refine fx_p hc rfl (fun _ => rfl) (fun _ => ?_) E
  show iv_sl mi (k : Nat) 0 _ = _
  unfold iv_sl
  rw [hm, if_pos (show (k : Nat) + 0 < M from Nat.le_of_ble_eq_true hk), fx_s1_s]
theorem fs_astore {k : Nat} {x : Nat} {M : Nat} (hc : iv_cd mi pc = some (.astore k)) (hp : pc + 2 = p) (hm : iv_mx mi = M) (hk : Nat.ble ((k : Nat) + 1) M = true) (ha : fx_s1 al (k : Nat) (.ref x) = al') (E : fx_E z mi d p al' r σ v τ) : fx_E z mi d pc al (.ref x :: r) σ v τ := by
  subst hp ha
  refine fx_p hc rfl (fun _ => rfl) (fun _ => ?_) E
  show iv_sl mi (k : Nat) 0 _ = _
  unfold iv_sl
  rw [hm, if_pos (show (k : Nat) + 0 < M from Nat.le_of_ble_eq_true hk), fx_s1_s]
theorem fs_iinc {k M : Nat} {n : Int} {x c : Int32} (hc : iv_cd mi pc = some (.iinc k n)) (hp : pc + 3 = p) (hx : Int32.ofInt n = c) (hm : iv_mx mi = M) (hk : Nat.ble (k + 1) M = true) (hl : al[k]? = some (some (.int x))) (ha : fx_s1 al k (.int (x + c)) = al') (E : fx_E z mi d p al' r σ v τ) : fx_E z mi d pc al r σ v τ := by
  subst hp ha hx
  refine fx_p hc rfl (fun _ => rfl) (fun _ => ?_) E
  show iv_li al k _ = _
  unfold iv_li
  rw [hl]
  show iv_sl mi k 0 _ = _
  unfold iv_sl
  rw [hm, if_pos (show k + 0 < M from Nat.le_of_ble_eq_true hk), fx_s1_s]
theorem fs_iadd {x y : Int32} (hc : iv_cd mi pc = some (.iadd)) (hp : pc + 1 = p)  (E : fx_E z mi d p al (.int (x + y) :: r) σ v τ) : fx_E z mi d pc al (.int y :: .int x :: r) σ v τ := by
  subst hp
  exact fx_p hc rfl (fun _ => rfl) (fun _ => rfl) E
theorem fs_isub {x y : Int32} (hc : iv_cd mi pc = some (.isub)) (hp : pc + 1 = p)  (E : fx_E z mi d p al (.int (x - y) :: r) σ v τ) : fx_E z mi d pc al (.int y :: .int x :: r) σ v τ := by
  subst hp
  exact fx_p hc rfl (fun _ => rfl) (fun _ => rfl) E
theorem fs_imul {x y : Int32} (hc : iv_cd mi pc = some (.imul)) (hp : pc + 1 = p)  (E : fx_E z mi d p al (.int (x * y) :: r) σ v τ) : fx_E z mi d pc al (.int y :: .int x :: r) σ v τ := by
  subst hp
  exact fx_p hc rfl (fun _ => rfl) (fun _ => rfl) E
theorem fs_iand {x y : Int32} (hc : iv_cd mi pc = some (.iand)) (hp : pc + 1 = p)  (E : fx_E z mi d p al (.int (x &&& y) :: r) σ v τ) : fx_E z mi d pc al (.int y :: .int x :: r) σ v τ := by
  subst hp
  exact fx_p hc rfl (fun _ => rfl) (fun _ => rfl) E
theorem fs_ior {x y : Int32} (hc : iv_cd mi pc = some (.ior)) (hp : pc + 1 = p)  (E : fx_E z mi d p al (.int (x ||| y) :: r) σ v τ) : fx_E z mi d pc al (.int y :: .int x :: r) σ v τ := by
  subst hp
  exact fx_p hc rfl (fun _ => rfl) (fun _ => rfl) E
theorem fs_ixor {x y : Int32} (hc : iv_cd mi pc = some (.ixor)) (hp : pc + 1 = p)  (E : fx_E z mi d p al (.int (x ^^^ y) :: r) σ v τ) : fx_E z mi d pc al (.int y :: .int x :: r) σ v τ := by
  subst hp
  exact fx_p hc rfl (fun _ => rfl) (fun _ => rfl) E
theorem fs_ishl {x y : Int32} (hc : iv_cd mi pc = some (.ishl)) (hp : pc + 1 = p)  (E : fx_E z mi d p al (.int (x <<< (y &&& 31)) :: r) σ v τ) : fx_E z mi d pc al (.int y :: .int x :: r) σ v τ := by
  subst hp
  exact fx_p hc rfl (fun _ => rfl) (fun _ => rfl) E
theorem fs_ishr {x y : Int32} (hc : iv_cd mi pc = some (.ishr)) (hp : pc + 1 = p)  (E : fx_E z mi d p al (.int (x >>> (y &&& 31)) :: r) σ v τ) : fx_E z mi d pc al (.int y :: .int x :: r) σ v τ := by
  subst hp
  exact fx_p hc rfl (fun _ => rfl) (fun _ => rfl) E
theorem fs_iushr {x y : Int32} (hc : iv_cd mi pc = some (.iushr)) (hp : pc + 1 = p)  (E : fx_E z mi d p al (.int ((x.toUInt32 >>> (y.toUInt32 &&& Int32.toUInt32 31)).toInt32) :: r) σ v τ) : fx_E z mi d pc al (.int y :: .int x :: r) σ v τ := by
  subst hp
  exact fx_p hc rfl (fun _ => rfl) (fun _ => rfl) E
theorem fs_ladd {x y : Int64} (hc : iv_cd mi pc = some (.ladd)) (hp : pc + 1 = p)  (E : fx_E z mi d p al (.long (x + y) :: r) σ v τ) : fx_E z mi d pc al (.long y :: .long x :: r) σ v τ := by
  subst hp
  exact fx_p hc rfl (fun _ => rfl) (fun _ => rfl) E
theorem fs_lsub {x y : Int64} (hc : iv_cd mi pc = some (.lsub)) (hp : pc + 1 = p)  (E : fx_E z mi d p al (.long (x - y) :: r) σ v τ) : fx_E z mi d pc al (.long y :: .long x :: r) σ v τ := by
  subst hp
  exact fx_p hc rfl (fun _ => rfl) (fun _ => rfl) E
theorem fs_lmul {x y : Int64} (hc : iv_cd mi pc = some (.lmul)) (hp : pc + 1 = p)  (E : fx_E z mi d p al (.long (x * y) :: r) σ v τ) : fx_E z mi d pc al (.long y :: .long x :: r) σ v τ := by
  subst hp
  exact fx_p hc rfl (fun _ => rfl) (fun _ => rfl) E
theorem fs_land {x y : Int64} (hc : iv_cd mi pc = some (.land)) (hp : pc + 1 = p)  (E : fx_E z mi d p al (.long (x &&& y) :: r) σ v τ) : fx_E z mi d pc al (.long y :: .long x :: r) σ v τ := by
  subst hp
  exact fx_p hc rfl (fun _ => rfl) (fun _ => rfl) E
theorem fs_lor {x y : Int64} (hc : iv_cd mi pc = some (.lor)) (hp : pc + 1 = p)  (E : fx_E z mi d p al (.long (x ||| y) :: r) σ v τ) : fx_E z mi d pc al (.long y :: .long x :: r) σ v τ := by
  subst hp
  exact fx_p hc rfl (fun _ => rfl) (fun _ => rfl) E
theorem fs_lxor {x y : Int64} (hc : iv_cd mi pc = some (.lxor)) (hp : pc + 1 = p)  (E : fx_E z mi d p al (.long (x ^^^ y) :: r) σ v τ) : fx_E z mi d pc al (.long y :: .long x :: r) σ v τ := by
  subst hp
  exact fx_p hc rfl (fun _ => rfl) (fun _ => rfl) E
theorem fs_idiv {x y : Int32} (hc : iv_cd mi pc = some (.idiv)) (hp : pc + 1 = p) (hy : ¬ y = 0) (E : fx_E z mi d p al (.int (x / y) :: r) σ v τ) : fx_E z mi d pc al (.int y :: .int x :: r) σ v τ := by
  subst hp
  exact fx_p hc rfl (fun _ => rfl) (fun _ => (by show (if y = 0 then none else _) = _; rw [if_neg hy]; rfl)) E
theorem fs_irem {x y : Int32} (hc : iv_cd mi pc = some (.irem)) (hp : pc + 1 = p) (hy : ¬ y = 0) (E : fx_E z mi d p al (.int (x - x / y * y) :: r) σ v τ) : fx_E z mi d pc al (.int y :: .int x :: r) σ v τ := by
  subst hp
  exact fx_p hc rfl (fun _ => rfl) (fun _ => (by show (if y = 0 then none else _) = _; rw [if_neg hy]; rfl)) E
theorem fs_ldiv {x y : Int64} (hc : iv_cd mi pc = some (.ldiv)) (hp : pc + 1 = p) (hy : ¬ y = 0) (E : fx_E z mi d p al (.long (x / y) :: r) σ v τ) : fx_E z mi d pc al (.long y :: .long x :: r) σ v τ := by
  subst hp
  exact fx_p hc rfl (fun _ => rfl) (fun _ => (by show (if y = 0 then none else _) = _; rw [if_neg hy]; rfl)) E
theorem fs_lrem {x y : Int64} (hc : iv_cd mi pc = some (.lrem)) (hp : pc + 1 = p) (hy : ¬ y = 0) (E : fx_E z mi d p al (.long (x - x / y * y) :: r) σ v τ) : fx_E z mi d pc al (.long y :: .long x :: r) σ v τ := by
  subst hp
  exact fx_p hc rfl (fun _ => rfl) (fun _ => (by show (if y = 0 then none else _) = _; rw [if_neg hy]; rfl)) E
theorem fs_lshl {x : Int64} {y : Int32} (hc : iv_cd mi pc = some (.lshl)) (hp : pc + 1 = p)  (E : fx_E z mi d p al (.long (x <<< (y.toInt64 &&& 63)) :: r) σ v τ) : fx_E z mi d pc al (.int y :: .long x :: r) σ v τ := by
  subst hp
  exact fx_p hc rfl (fun _ => rfl) (fun _ => rfl) E
theorem fs_lshr {x : Int64} {y : Int32} (hc : iv_cd mi pc = some (.lshr)) (hp : pc + 1 = p)  (E : fx_E z mi d p al (.long (x >>> (y.toInt64 &&& 63)) :: r) σ v τ) : fx_E z mi d pc al (.int y :: .long x :: r) σ v τ := by
  subst hp
  exact fx_p hc rfl (fun _ => rfl) (fun _ => rfl) E
theorem fs_pop2 {x : Value} (hc : iv_cd mi pc = some (.pop2)) (hp : pc + 1 = p) (hx : x.category = 2) (E : fx_E z mi d p al (r) σ v τ) : fx_E z mi d pc al (x :: r) σ v τ := by
  subst hp
  exact fx_p hc rfl (fun _ => rfl) (fun _ => (by show (if x.category = 2 then _ else none) = _; rw [if_pos hx])) E
theorem fs_ineg {x : Int32} (hc : iv_cd mi pc = some (.ineg)) (hp : pc + 1 = p)  (E : fx_E z mi d p al (.int (-x) :: r) σ v τ) : fx_E z mi d pc al (.int x :: r) σ v τ := by
  subst hp
  exact fx_p hc rfl (fun _ => rfl) (fun _ => rfl) E
theorem fs_lneg {x : Int64} (hc : iv_cd mi pc = some (.lneg)) (hp : pc + 1 = p)  (E : fx_E z mi d p al (.long (-x) :: r) σ v τ) : fx_E z mi d pc al (.long x :: r) σ v τ := by
  subst hp
  exact fx_p hc rfl (fun _ => rfl) (fun _ => rfl) E
theorem fs_i2l {x : Int32} (hc : iv_cd mi pc = some (.i2l)) (hp : pc + 1 = p)  (E : fx_E z mi d p al (.long x.toInt64 :: r) σ v τ) : fx_E z mi d pc al (.int x :: r) σ v τ := by
  subst hp
  exact fx_p hc rfl (fun _ => rfl) (fun _ => rfl) E
theorem fs_l2i {x : Int64} (hc : iv_cd mi pc = some (.l2i)) (hp : pc + 1 = p)  (E : fx_E z mi d p al (.int x.toInt32 :: r) σ v τ) : fx_E z mi d pc al (.long x :: r) σ v τ := by
  subst hp
  exact fx_p hc rfl (fun _ => rfl) (fun _ => rfl) E
theorem fs_i2b {x : Int32} (hc : iv_cd mi pc = some (.i2b)) (hp : pc + 1 = p)  (E : fx_E z mi d p al (.int x.toInt8.toInt32 :: r) σ v τ) : fx_E z mi d pc al (.int x :: r) σ v τ := by
  subst hp
  exact fx_p hc rfl (fun _ => rfl) (fun _ => rfl) E
theorem fs_lcmp {x y : Int64} (hc : iv_cd mi pc = some (.lcmp)) (hp : pc + 1 = p)  (E : fx_E z mi d p al (.int (lg_cmp x y) :: r) σ v τ) : fx_E z mi d pc al (.long y :: .long x :: r) σ v τ := by
  subst hp
  exact fx_p hc rfl (fun _ => rfl) (fun _ => rfl) E
theorem fs_dup {x : Value} (hc : iv_cd mi pc = some (.dup)) (hp : pc + 1 = p) (hx : x.category = 1) (E : fx_E z mi d p al (x :: x :: r) σ v τ) : fx_E z mi d pc al (x :: r) σ v τ := by
  subst hp
  exact fx_p hc rfl (fun _ => rfl) (fun _ => (by show (if x.category = 1 then _ else none) = _; rw [if_pos hx])) E
theorem fs_pop {x : Value} (hc : iv_cd mi pc = some (.pop)) (hp : pc + 1 = p) (hx : x.category = 1) (E : fx_E z mi d p al (r) σ v τ) : fx_E z mi d pc al (x :: r) σ v τ := by
  subst hp
  exact fx_p hc rfl (fun _ => rfl) (fun _ => (by show (if x.category = 1 then _ else none) = _; rw [if_pos hx])) E
theorem fs_dup_x1 {x y : Value} (hc : iv_cd mi pc = some (.dup_x1)) (hp : pc + 1 = p) (hx : x.category = 1) (hy : y.category = 1) (E : fx_E z mi d p al (x :: y :: x :: r) σ v τ) : fx_E z mi d pc al (x :: y :: r) σ v τ := by
  subst hp
  exact fx_p hc rfl (fun _ => rfl) (fun _ => (by show (if x.category = 1 then (if y.category = 1 then _ else none) else none) = _; rw [if_pos hx, if_pos hy])) E
theorem fs_dup2 {x y : Value} (hc : iv_cd mi pc = some (.dup2)) (hp : pc + 1 = p) (hx : x.category = 1) (hy : y.category = 1) (E : fx_E z mi d p al (x :: y :: x :: y :: r) σ v τ) : fx_E z mi d pc al (x :: y :: r) σ v τ := by
  subst hp
  exact fx_p hc rfl (fun _ => rfl) (fun _ => (by show (if x.category = 2 then _ else (if x.category = 1 then (if y.category = 1 then _ else none) else none)) = _; rw [if_neg (by rw [hx]; decide), if_pos hx, if_pos hy])) E
theorem fs_dup_x2 {x y q : Value} (hc : iv_cd mi pc = some (.dup_x2)) (hp : pc + 1 = p) (hx : x.category = 1) (hy : y.category = 1) (hq : q.category = 1) (E : fx_E z mi d p al (x :: y :: q :: x :: r) σ v τ) : fx_E z mi d pc al (x :: y :: q :: r) σ v τ := by
  subst hp
  exact fx_p hc rfl (fun _ => rfl) (fun _ => (by show (if x.category = 1 then (if y.category = 1 then (if q.category = 1 then _ else none) else none) else none) = _; rw [if_pos hx, if_pos hy, if_pos hq])) E
theorem fs_goto {off : Int} (hc : iv_cd mi pc = some (.goto off)) (hp : iv_tg pc off = some p) (E : fx_E z mi d p al r σ v τ) : fx_E z mi d pc al r σ v τ :=
  fx_p hc rfl (fun _ => rfl) (fun _ => (by show (iv_tg pc off).bind _ = _; rw [hp]; rfl)) E
theorem fs_icmp_eq_t {off : Int} {t : Nat} {x y : Int32} (hc : iv_cd mi pc = some (.if_icmp .eq off)) (ht : iv_tg pc off = some t) (c : x = y) (E : fx_E z mi d t al r σ v τ) : fx_E z mi d pc al (.int y :: .int x :: r) σ v τ :=
  fx_p hc rfl (fun _ => rfl) (fun _ => (by show iv_br (decide (x = y)) pc off al r = _; unfold iv_br; rw [ht, decide_eq_true c]; rfl)) E
theorem fs_icmp_eq_f {off : Int} {t : Nat} {x y : Int32} (hc : iv_cd mi pc = some (.if_icmp .eq off)) (ht : iv_tg pc off = some t) (hp : pc + 3 = p) (c : ¬ (x = y)) (E : fx_E z mi d p al r σ v τ) : fx_E z mi d pc al (.int y :: .int x :: r) σ v τ := by
  subst hp
  exact fx_p hc rfl (fun _ => rfl) (fun _ => (by show iv_br (decide (x = y)) pc off al r = _; unfold iv_br; rw [ht, decide_eq_false c]; rfl)) E
theorem fs_if_eq_t {off : Int} {t : Nat} {x : Int32} (hc : iv_cd mi pc = some (.ifCond .eq off)) (ht : iv_tg pc off = some t) (c : x = 0) (E : fx_E z mi d t al r σ v τ) : fx_E z mi d pc al (.int x :: r) σ v τ :=
  fx_p hc rfl (fun _ => rfl) (fun _ => (by show iv_br (decide (x = 0)) pc off al r = _; unfold iv_br; rw [ht, decide_eq_true c]; rfl)) E
theorem fs_if_eq_f {off : Int} {t : Nat} {x : Int32} (hc : iv_cd mi pc = some (.ifCond .eq off)) (ht : iv_tg pc off = some t) (hp : pc + 3 = p) (c : ¬ (x = 0)) (E : fx_E z mi d p al r σ v τ) : fx_E z mi d pc al (.int x :: r) σ v τ := by
  subst hp
  exact fx_p hc rfl (fun _ => rfl) (fun _ => (by show iv_br (decide (x = 0)) pc off al r = _; unfold iv_br; rw [ht, decide_eq_false c]; rfl)) E
theorem fs_icmp_ne_t {off : Int} {t : Nat} {x y : Int32} (hc : iv_cd mi pc = some (.if_icmp .ne off)) (ht : iv_tg pc off = some t) (c : ¬ x = y) (E : fx_E z mi d t al r σ v τ) : fx_E z mi d pc al (.int y :: .int x :: r) σ v τ :=
  fx_p hc rfl (fun _ => rfl) (fun _ => (by show iv_br (decide (¬ x = y)) pc off al r = _; unfold iv_br; rw [ht, decide_eq_true c]; rfl)) E
theorem fs_icmp_ne_f {off : Int} {t : Nat} {x y : Int32} (hc : iv_cd mi pc = some (.if_icmp .ne off)) (ht : iv_tg pc off = some t) (hp : pc + 3 = p) (c : ¬ (¬ x = y)) (E : fx_E z mi d p al r σ v τ) : fx_E z mi d pc al (.int y :: .int x :: r) σ v τ := by
  subst hp
  exact fx_p hc rfl (fun _ => rfl) (fun _ => (by show iv_br (decide (¬ x = y)) pc off al r = _; unfold iv_br; rw [ht, decide_eq_false c]; rfl)) E
theorem fs_if_ne_t {off : Int} {t : Nat} {x : Int32} (hc : iv_cd mi pc = some (.ifCond .ne off)) (ht : iv_tg pc off = some t) (c : ¬ x = 0) (E : fx_E z mi d t al r σ v τ) : fx_E z mi d pc al (.int x :: r) σ v τ :=
  fx_p hc rfl (fun _ => rfl) (fun _ => (by show iv_br (decide (¬ x = 0)) pc off al r = _; unfold iv_br; rw [ht, decide_eq_true c]; rfl)) E
theorem fs_if_ne_f {off : Int} {t : Nat} {x : Int32} (hc : iv_cd mi pc = some (.ifCond .ne off)) (ht : iv_tg pc off = some t) (hp : pc + 3 = p) (c : ¬ (¬ x = 0)) (E : fx_E z mi d p al r σ v τ) : fx_E z mi d pc al (.int x :: r) σ v τ := by
  subst hp
  exact fx_p hc rfl (fun _ => rfl) (fun _ => (by show iv_br (decide (¬ x = 0)) pc off al r = _; unfold iv_br; rw [ht, decide_eq_false c]; rfl)) E
theorem fs_icmp_lt_t {off : Int} {t : Nat} {x y : Int32} (hc : iv_cd mi pc = some (.if_icmp .lt off)) (ht : iv_tg pc off = some t) (c : x < y) (E : fx_E z mi d t al r σ v τ) : fx_E z mi d pc al (.int y :: .int x :: r) σ v τ :=
  fx_p hc rfl (fun _ => rfl) (fun _ => (by show iv_br (decide (x < y)) pc off al r = _; unfold iv_br; rw [ht, decide_eq_true c]; rfl)) E
theorem fs_icmp_lt_f {off : Int} {t : Nat} {x y : Int32} (hc : iv_cd mi pc = some (.if_icmp .lt off)) (ht : iv_tg pc off = some t) (hp : pc + 3 = p) (c : ¬ (x < y)) (E : fx_E z mi d p al r σ v τ) : fx_E z mi d pc al (.int y :: .int x :: r) σ v τ := by
  subst hp
  exact fx_p hc rfl (fun _ => rfl) (fun _ => (by show iv_br (decide (x < y)) pc off al r = _; unfold iv_br; rw [ht, decide_eq_false c]; rfl)) E
theorem fs_if_lt_t {off : Int} {t : Nat} {x : Int32} (hc : iv_cd mi pc = some (.ifCond .lt off)) (ht : iv_tg pc off = some t) (c : x < 0) (E : fx_E z mi d t al r σ v τ) : fx_E z mi d pc al (.int x :: r) σ v τ :=
  fx_p hc rfl (fun _ => rfl) (fun _ => (by show iv_br (decide (x < 0)) pc off al r = _; unfold iv_br; rw [ht, decide_eq_true c]; rfl)) E
theorem fs_if_lt_f {off : Int} {t : Nat} {x : Int32} (hc : iv_cd mi pc = some (.ifCond .lt off)) (ht : iv_tg pc off = some t) (hp : pc + 3 = p) (c : ¬ (x < 0)) (E : fx_E z mi d p al r σ v τ) : fx_E z mi d pc al (.int x :: r) σ v τ := by
  subst hp
  exact fx_p hc rfl (fun _ => rfl) (fun _ => (by show iv_br (decide (x < 0)) pc off al r = _; unfold iv_br; rw [ht, decide_eq_false c]; rfl)) E
theorem fs_icmp_ge_t {off : Int} {t : Nat} {x y : Int32} (hc : iv_cd mi pc = some (.if_icmp .ge off)) (ht : iv_tg pc off = some t) (c : y ≤ x) (E : fx_E z mi d t al r σ v τ) : fx_E z mi d pc al (.int y :: .int x :: r) σ v τ :=
  fx_p hc rfl (fun _ => rfl) (fun _ => (by show iv_br (decide (y ≤ x)) pc off al r = _; unfold iv_br; rw [ht, decide_eq_true c]; rfl)) E
theorem fs_icmp_ge_f {off : Int} {t : Nat} {x y : Int32} (hc : iv_cd mi pc = some (.if_icmp .ge off)) (ht : iv_tg pc off = some t) (hp : pc + 3 = p) (c : ¬ (y ≤ x)) (E : fx_E z mi d p al r σ v τ) : fx_E z mi d pc al (.int y :: .int x :: r) σ v τ := by
  subst hp
  exact fx_p hc rfl (fun _ => rfl) (fun _ => (by show iv_br (decide (y ≤ x)) pc off al r = _; unfold iv_br; rw [ht, decide_eq_false c]; rfl)) E
theorem fs_if_ge_t {off : Int} {t : Nat} {x : Int32} (hc : iv_cd mi pc = some (.ifCond .ge off)) (ht : iv_tg pc off = some t) (c : 0 ≤ x) (E : fx_E z mi d t al r σ v τ) : fx_E z mi d pc al (.int x :: r) σ v τ :=
  fx_p hc rfl (fun _ => rfl) (fun _ => (by show iv_br (decide (0 ≤ x)) pc off al r = _; unfold iv_br; rw [ht, decide_eq_true c]; rfl)) E
theorem fs_if_ge_f {off : Int} {t : Nat} {x : Int32} (hc : iv_cd mi pc = some (.ifCond .ge off)) (ht : iv_tg pc off = some t) (hp : pc + 3 = p) (c : ¬ (0 ≤ x)) (E : fx_E z mi d p al r σ v τ) : fx_E z mi d pc al (.int x :: r) σ v τ := by
  subst hp
  exact fx_p hc rfl (fun _ => rfl) (fun _ => (by show iv_br (decide (0 ≤ x)) pc off al r = _; unfold iv_br; rw [ht, decide_eq_false c]; rfl)) E
theorem fs_icmp_gt_t {off : Int} {t : Nat} {x y : Int32} (hc : iv_cd mi pc = some (.if_icmp .gt off)) (ht : iv_tg pc off = some t) (c : y < x) (E : fx_E z mi d t al r σ v τ) : fx_E z mi d pc al (.int y :: .int x :: r) σ v τ :=
  fx_p hc rfl (fun _ => rfl) (fun _ => (by show iv_br (decide (y < x)) pc off al r = _; unfold iv_br; rw [ht, decide_eq_true c]; rfl)) E
theorem fs_icmp_gt_f {off : Int} {t : Nat} {x y : Int32} (hc : iv_cd mi pc = some (.if_icmp .gt off)) (ht : iv_tg pc off = some t) (hp : pc + 3 = p) (c : ¬ (y < x)) (E : fx_E z mi d p al r σ v τ) : fx_E z mi d pc al (.int y :: .int x :: r) σ v τ := by
  subst hp
  exact fx_p hc rfl (fun _ => rfl) (fun _ => (by show iv_br (decide (y < x)) pc off al r = _; unfold iv_br; rw [ht, decide_eq_false c]; rfl)) E
theorem fs_if_gt_t {off : Int} {t : Nat} {x : Int32} (hc : iv_cd mi pc = some (.ifCond .gt off)) (ht : iv_tg pc off = some t) (c : 0 < x) (E : fx_E z mi d t al r σ v τ) : fx_E z mi d pc al (.int x :: r) σ v τ :=
  fx_p hc rfl (fun _ => rfl) (fun _ => (by show iv_br (decide (0 < x)) pc off al r = _; unfold iv_br; rw [ht, decide_eq_true c]; rfl)) E
theorem fs_if_gt_f {off : Int} {t : Nat} {x : Int32} (hc : iv_cd mi pc = some (.ifCond .gt off)) (ht : iv_tg pc off = some t) (hp : pc + 3 = p) (c : ¬ (0 < x)) (E : fx_E z mi d p al r σ v τ) : fx_E z mi d pc al (.int x :: r) σ v τ := by
  subst hp
  exact fx_p hc rfl (fun _ => rfl) (fun _ => (by show iv_br (decide (0 < x)) pc off al r = _; unfold iv_br; rw [ht, decide_eq_false c]; rfl)) E
theorem fs_icmp_le_t {off : Int} {t : Nat} {x y : Int32} (hc : iv_cd mi pc = some (.if_icmp .le off)) (ht : iv_tg pc off = some t) (c : x ≤ y) (E : fx_E z mi d t al r σ v τ) : fx_E z mi d pc al (.int y :: .int x :: r) σ v τ :=
  fx_p hc rfl (fun _ => rfl) (fun _ => (by show iv_br (decide (x ≤ y)) pc off al r = _; unfold iv_br; rw [ht, decide_eq_true c]; rfl)) E
theorem fs_icmp_le_f {off : Int} {t : Nat} {x y : Int32} (hc : iv_cd mi pc = some (.if_icmp .le off)) (ht : iv_tg pc off = some t) (hp : pc + 3 = p) (c : ¬ (x ≤ y)) (E : fx_E z mi d p al r σ v τ) : fx_E z mi d pc al (.int y :: .int x :: r) σ v τ := by
  subst hp
  exact fx_p hc rfl (fun _ => rfl) (fun _ => (by show iv_br (decide (x ≤ y)) pc off al r = _; unfold iv_br; rw [ht, decide_eq_false c]; rfl)) E
theorem fs_if_le_t {off : Int} {t : Nat} {x : Int32} (hc : iv_cd mi pc = some (.ifCond .le off)) (ht : iv_tg pc off = some t) (c : x ≤ 0) (E : fx_E z mi d t al r σ v τ) : fx_E z mi d pc al (.int x :: r) σ v τ :=
  fx_p hc rfl (fun _ => rfl) (fun _ => (by show iv_br (decide (x ≤ 0)) pc off al r = _; unfold iv_br; rw [ht, decide_eq_true c]; rfl)) E
theorem fs_if_le_f {off : Int} {t : Nat} {x : Int32} (hc : iv_cd mi pc = some (.ifCond .le off)) (ht : iv_tg pc off = some t) (hp : pc + 3 = p) (c : ¬ (x ≤ 0)) (E : fx_E z mi d p al r σ v τ) : fx_E z mi d pc al (.int x :: r) σ v τ := by
  subst hp
  exact fx_p hc rfl (fun _ => rfl) (fun _ => (by show iv_br (decide (x ≤ 0)) pc off al r = _; unfold iv_br; rw [ht, decide_eq_false c]; rfl)) E
theorem fs_tsw_h {dflt lo hi : Int} {offs : Array Int} {x : Int32} {j t : Nat} (hc : iv_cd mi pc = some (.tableswitch dflt lo hi offs)) (ht : (offs[j]?).bind (iv_tg pc) = some t) (hb : (decide (lo ≤ lo + (j : Int)) && decide (lo + (j : Int) ≤ hi) && decide (-2147483648 ≤ lo) && decide (hi ≤ 2147483647)) = true) (hx : x = Int32.ofInt (lo + (j : Int))) (E : fx_E z mi d t al r σ v τ) : fx_E z mi d pc al (.int x :: r) σ v τ := by
  simp only [Bool.and_eq_true, decide_eq_true_eq] at hb
  obtain ⟨⟨⟨b1, b2⟩, b3⟩, b4⟩ := hb
  have e : x.toInt = lo + (j : Int) := by
    rw [hx]
    exact Int32.toInt_ofInt_of_le (by omega) (by omega)
  refine fx_p hc rfl (fun _ => rfl) (fun _ => ?_) E
  show (if x.toInt < lo ∨ hi < x.toInt then iv_jp pc dflt al r else (offs[(x.toInt - lo).toNat]?).bind fun off => iv_jp pc off al r) = _
  rw [if_neg (by omega), e, show (lo + (j : Int) - lo).toNat = j by omega]
  obtain ⟨off, o1, o2⟩ := Option.bind_eq_some_iff.mp ht
  rw [o1]
  show (iv_tg pc off).bind _ = _
  rw [o2]
  rfl
theorem fs_tsw_d {dflt lo hi : Int} {offs : Array Int} {x : Int32} {t : Nat} (hc : iv_cd mi pc = some (.tableswitch dflt lo hi offs)) (ht : iv_tg pc dflt = some t) (hn : hi < lo + offs.size) (hb : (decide (-2147483648 ≤ lo) && decide (hi ≤ 2147483647)) = true) (hx : ∀ j : Nat, j < offs.size → ¬ x = Int32.ofInt (lo + (j : Int))) (E : fx_E z mi d t al r σ v τ) : fx_E z mi d pc al (.int x :: r) σ v τ := by
  simp only [Bool.and_eq_true, decide_eq_true_eq] at hb
  obtain ⟨b3, b4⟩ := hb
  refine fx_p hc rfl (fun _ => rfl) (fun _ => ?_) E
  show (if x.toInt < lo ∨ hi < x.toInt then iv_jp pc dflt al r else _) = _
  rw [if_pos ?_]
  · show (iv_tg pc dflt).bind _ = _
    rw [ht]
    rfl
  · by_cases q : x.toInt < lo ∨ hi < x.toInt
    · exact q
    · have q1 : lo ≤ x.toInt := by omega
      have q2 : x.toInt ≤ hi := by omega
      refine absurd ?_ (hx (x.toInt - lo).toNat (by omega))
      rw [show lo + ((x.toInt - lo).toNat : Int) = x.toInt by omega]
      first | exact (Int32.ofInt_toInt x).symm | simp
theorem fx_lc (x y : Int64) : (lg_cmp x y = 0 ↔ x = y) ∧ (lg_cmp x y < 0 ↔ x < y) ∧ (0 ≤ lg_cmp x y ↔ y ≤ x) ∧ (0 < lg_cmp x y ↔ y < x) ∧ (lg_cmp x y ≤ 0 ↔ x ≤ y) := by
  have h0 := Int64.lt_iff_toInt_lt (x := x) (y := y)
  have h1 := Int64.lt_iff_toInt_lt (x := y) (y := x)
  have h2 := Int64.le_iff_toInt_le (x := x) (y := y)
  have h3 := Int64.le_iff_toInt_le (x := y) (y := x)
  have h4 := Int64.toInt_inj (x := x) (y := y)
  unfold lg_cmp
  by_cases g : x > y
  · rw [if_pos g]
    have g' : y.toInt < x.toInt := h1.mp g
    have e0 : ¬ x = y := fun q => by rw [h4.mpr q] at g'; omega
    have e1 : ¬ x < y := fun q => by have := h0.mp q; omega
    have e2 : y ≤ x := h3.mpr (by omega)
    have e3 : ¬ x ≤ y := fun q => by have := h2.mp q; omega
    exact ⟨⟨fun q => absurd q (by decide), fun q => absurd q e0⟩, ⟨fun q => absurd q (by decide), fun q => absurd q e1⟩, ⟨fun _ => e2, fun _ => by decide⟩, ⟨fun _ => g, fun _ => by decide⟩, ⟨fun q => absurd q (by decide), fun q => absurd q e3⟩⟩
  · rw [if_neg g]
    have g' : ¬ y.toInt < x.toInt := fun q => g (h1.mpr q)
    by_cases e : x = y
    · rw [if_pos e]
      have e1 : ¬ x < y := fun q => by have := h0.mp q; rw [h4.mpr e] at this; omega
      have e2 : y ≤ x := h3.mpr (by rw [h4.mpr e]; omega)
      have e3 : x ≤ y := h2.mpr (by omega)
      exact ⟨⟨fun _ => e, fun _ => rfl⟩, ⟨fun q => absurd q (by decide), fun q => absurd q e1⟩, ⟨fun _ => e2, fun _ => by decide⟩, ⟨fun q => absurd q (by decide), fun q => absurd q g⟩, ⟨fun _ => e3, fun _ => by decide⟩⟩
    · rw [if_neg e]
      have e4 : ¬ x.toInt = y.toInt := fun q => e (h4.mp q)
      have e1 : x < y := h0.mpr (by omega)
      have e2 : ¬ y ≤ x := fun q => by have := h3.mp q; omega
      have e3 : x ≤ y := h2.mpr (by omega)
      exact ⟨⟨fun q => absurd q (by decide), fun q => absurd q e⟩, ⟨fun _ => e1, fun _ => by decide⟩, ⟨fun q => absurd q (by decide), fun q => absurd q e2⟩, ⟨fun q => absurd q (by decide), fun q => absurd q g⟩, ⟨fun _ => e3, fun _ => by decide⟩⟩
theorem fs_lcmp_eq_t {off : Int} {t : Nat} {x y : Int64} (hc0 : iv_cd mi pc = some .lcmp) (hc : iv_cd mi (pc + 1) = some (.ifCond .eq off)) (ht : iv_tg (pc + 1) off = some t) (c : x = y) (E : fx_E z mi d t al r σ v τ) : fx_E z mi d pc al (.long y :: .long x :: r) σ v τ :=
  fs_lcmp hc0 rfl (fs_if_eq_t hc ht (((fx_lc x y).1).mpr c) E)
theorem fs_lcmp_eq_f {off : Int} {t : Nat} {x y : Int64} (hc0 : iv_cd mi pc = some .lcmp) (hc : iv_cd mi (pc + 1) = some (.ifCond .eq off)) (ht : iv_tg (pc + 1) off = some t) (hp : pc + 4 = p) (c : ¬ (x = y)) (E : fx_E z mi d p al r σ v τ) : fx_E z mi d pc al (.long y :: .long x :: r) σ v τ :=
  fs_lcmp hc0 rfl (fs_if_eq_f hc ht (by rw [← hp]) (fun q => c (((fx_lc x y).1).mp q)) E)
theorem fs_lcmp_ne_t {off : Int} {t : Nat} {x y : Int64} (hc0 : iv_cd mi pc = some .lcmp) (hc : iv_cd mi (pc + 1) = some (.ifCond .ne off)) (ht : iv_tg (pc + 1) off = some t) (c : ¬ x = y) (E : fx_E z mi d t al r σ v τ) : fx_E z mi d pc al (.long y :: .long x :: r) σ v τ :=
  fs_lcmp hc0 rfl (fs_if_ne_t hc ht ((not_congr (fx_lc x y).1).mpr c) E)
theorem fs_lcmp_ne_f {off : Int} {t : Nat} {x y : Int64} (hc0 : iv_cd mi pc = some .lcmp) (hc : iv_cd mi (pc + 1) = some (.ifCond .ne off)) (ht : iv_tg (pc + 1) off = some t) (hp : pc + 4 = p) (c : ¬ (¬ x = y)) (E : fx_E z mi d p al r σ v τ) : fx_E z mi d pc al (.long y :: .long x :: r) σ v τ :=
  fs_lcmp hc0 rfl (fs_if_ne_f hc ht (by rw [← hp]) (fun q => c ((not_congr (fx_lc x y).1).mp q)) E)
theorem fs_lcmp_lt_t {off : Int} {t : Nat} {x y : Int64} (hc0 : iv_cd mi pc = some .lcmp) (hc : iv_cd mi (pc + 1) = some (.ifCond .lt off)) (ht : iv_tg (pc + 1) off = some t) (c : x < y) (E : fx_E z mi d t al r σ v τ) : fx_E z mi d pc al (.long y :: .long x :: r) σ v τ :=
  fs_lcmp hc0 rfl (fs_if_lt_t hc ht (((fx_lc x y).2.1).mpr c) E)
theorem fs_lcmp_lt_f {off : Int} {t : Nat} {x y : Int64} (hc0 : iv_cd mi pc = some .lcmp) (hc : iv_cd mi (pc + 1) = some (.ifCond .lt off)) (ht : iv_tg (pc + 1) off = some t) (hp : pc + 4 = p) (c : ¬ (x < y)) (E : fx_E z mi d p al r σ v τ) : fx_E z mi d pc al (.long y :: .long x :: r) σ v τ :=
  fs_lcmp hc0 rfl (fs_if_lt_f hc ht (by rw [← hp]) (fun q => c (((fx_lc x y).2.1).mp q)) E)
theorem fs_lcmp_ge_t {off : Int} {t : Nat} {x y : Int64} (hc0 : iv_cd mi pc = some .lcmp) (hc : iv_cd mi (pc + 1) = some (.ifCond .ge off)) (ht : iv_tg (pc + 1) off = some t) (c : y ≤ x) (E : fx_E z mi d t al r σ v τ) : fx_E z mi d pc al (.long y :: .long x :: r) σ v τ :=
  fs_lcmp hc0 rfl (fs_if_ge_t hc ht (((fx_lc x y).2.2.1).mpr c) E)
theorem fs_lcmp_ge_f {off : Int} {t : Nat} {x y : Int64} (hc0 : iv_cd mi pc = some .lcmp) (hc : iv_cd mi (pc + 1) = some (.ifCond .ge off)) (ht : iv_tg (pc + 1) off = some t) (hp : pc + 4 = p) (c : ¬ (y ≤ x)) (E : fx_E z mi d p al r σ v τ) : fx_E z mi d pc al (.long y :: .long x :: r) σ v τ :=
  fs_lcmp hc0 rfl (fs_if_ge_f hc ht (by rw [← hp]) (fun q => c (((fx_lc x y).2.2.1).mp q)) E)
theorem fs_lcmp_gt_t {off : Int} {t : Nat} {x y : Int64} (hc0 : iv_cd mi pc = some .lcmp) (hc : iv_cd mi (pc + 1) = some (.ifCond .gt off)) (ht : iv_tg (pc + 1) off = some t) (c : y < x) (E : fx_E z mi d t al r σ v τ) : fx_E z mi d pc al (.long y :: .long x :: r) σ v τ :=
  fs_lcmp hc0 rfl (fs_if_gt_t hc ht (((fx_lc x y).2.2.2.1).mpr c) E)
theorem fs_lcmp_gt_f {off : Int} {t : Nat} {x y : Int64} (hc0 : iv_cd mi pc = some .lcmp) (hc : iv_cd mi (pc + 1) = some (.ifCond .gt off)) (ht : iv_tg (pc + 1) off = some t) (hp : pc + 4 = p) (c : ¬ (y < x)) (E : fx_E z mi d p al r σ v τ) : fx_E z mi d pc al (.long y :: .long x :: r) σ v τ :=
  fs_lcmp hc0 rfl (fs_if_gt_f hc ht (by rw [← hp]) (fun q => c (((fx_lc x y).2.2.2.1).mp q)) E)
theorem fs_lcmp_le_t {off : Int} {t : Nat} {x y : Int64} (hc0 : iv_cd mi pc = some .lcmp) (hc : iv_cd mi (pc + 1) = some (.ifCond .le off)) (ht : iv_tg (pc + 1) off = some t) (c : x ≤ y) (E : fx_E z mi d t al r σ v τ) : fx_E z mi d pc al (.long y :: .long x :: r) σ v τ :=
  fs_lcmp hc0 rfl (fs_if_le_t hc ht (((fx_lc x y).2.2.2.2).mpr c) E)
theorem fs_lcmp_le_f {off : Int} {t : Nat} {x y : Int64} (hc0 : iv_cd mi pc = some .lcmp) (hc : iv_cd mi (pc + 1) = some (.ifCond .le off)) (ht : iv_tg (pc + 1) off = some t) (hp : pc + 4 = p) (c : ¬ (x ≤ y)) (E : fx_E z mi d p al r σ v τ) : fx_E z mi d pc al (.long y :: .long x :: r) σ v τ :=
  fs_lcmp hc0 rfl (fs_if_le_f hc ht (by rw [← hp]) (fun q => c (((fx_lc x y).2.2.2.2).mp q)) E)
theorem fx_gf {idx ci j k : Nat} {h : iv_H} (R : fx_R σ h) (hf : iv_fd (iv_kf mi) idx = some (ci, j)) (hk : fx_oc k ci = true) (hj : Nat.blt j (fx_sh k).2 = true) : iv_gf mi idx h k = some (fx_fv σ k ci j) := by
  obtain ⟨fs, h1, h2, h3⟩ := fx_R_o R hk
  rw [iv_gf_at hf h1]
  exact h3 j (by rw [h2]; exact Nat.le_of_ble_eq_true hj)
/-- a field's number, type; nf: how many the class has -/
def fx_kf (mi idx ci j nf : Nat) (t : Nat) : Bool := decide (iv_fd (iv_kf mi) idx = some (ci, j)) && Nat.blt j nf && (match iv_ft ci j with
  | .int => Nat.beq t 0
  | .boolean => Nat.beq t 0 || Nat.beq t 3
  | .long => Nat.beq t 1
  | .object _ => Nat.beq t 2
  | .array _ => Nat.beq t 2
  | _ => false)
theorem fx_nf_of {k ci : Nat} (hk : fx_oc k ci = true) : (fx_sh k).2 = fx_nf ci := by
  obtain ⟨g1, g2⟩ := fx_oc_s hk
  have h := List.all_eq_true.mp fx_nf_all k (List.mem_range.mpr g1)
  rw [g2] at h
  simp only [Bool.or_eq_true] at h
  rcases h with h | h
  · exact absurd (Nat.le_of_ble_eq_true h) (by omega)
  · rw [Nat.eq_of_beq_eq_true h, show 100 + ci - 100 = ci by omega]
theorem fx_kf_s {idx ci j t : Nat} (h : fx_kf mi idx ci j (fx_nf ci) t = true) : iv_fd (iv_kf mi) idx = some (ci, j) ∧ j < fx_nf ci := by
  simp only [fx_kf, Bool.and_eq_true, decide_eq_true_eq] at h
  exact ⟨h.1.1, Nat.le_of_ble_eq_true h.1.2⟩
theorem fx_kf0 {idx ci j : Nat} (h : fx_kf mi idx ci j (fx_nf ci) 0 = true) : (iv_ft ci j = .int ∨ iv_ft ci j = .boolean) ∧ ∀ (σ : fx_S) (k : Nat), fx_fv σ k ci j = .int (σ.1 k j) := by
  simp only [fx_kf, Bool.and_eq_true] at h
  have h2 := h.2
  unfold fx_fv
  clear h
  revert h2
  generalize iv_ft ci j = ty
  cases ty <;> intro h2 <;> first | exact ⟨Or.inl rfl, fun _ _ => rfl⟩ | exact ⟨Or.inr rfl, fun _ _ => rfl⟩ | cases h2
theorem fx_kf1 {idx ci j : Nat} (h : fx_kf mi idx ci j (fx_nf ci) 1 = true) : iv_ft ci j = .long ∧ ∀ (σ : fx_S) (k : Nat), fx_fv σ k ci j = .long (σ.2 k j) := by
  simp only [fx_kf, Bool.and_eq_true] at h
  have h2 := h.2
  unfold fx_fv
  clear h
  revert h2
  generalize iv_ft ci j = ty
  cases ty <;> intro h2 <;> first | exact ⟨rfl, fun _ _ => rfl⟩ | cases h2
theorem fx_kf2 {idx ci j : Nat} (h : fx_kf mi idx ci j (fx_nf ci) 2 = true) : ∀ (σ : fx_S) (k : Nat), fx_fv σ k ci j = .ref (fx_rf k j) := by
  simp only [fx_kf, Bool.and_eq_true] at h
  have h2 := h.2
  unfold fx_fv
  clear h
  revert h2
  generalize iv_ft ci j = ty
  cases ty <;> intro h2 <;> first | exact fun _ _ => rfl | cases h2
theorem fs_gfi {idx ci j k : Nat} (hc : iv_cd mi pc = some (.getfield idx)) (hp : pc + 3 = p) (hf : fx_kf mi idx ci j (fx_nf ci) 0 = true) (hk : fx_oc k ci = true) (E : fx_E z mi d p al (.int (σ.1 k j) :: r) σ v τ) : fx_E z mi d pc al (.ref k :: r) σ v τ := by
  subst hp
  obtain ⟨h1, h2⟩ := fx_kf_s hf
  refine fx_q hc rfl (fun _ => rfl) (fun h R => iv_gf_o ?_) E
  rw [fx_gf R h1 hk (Nat.ble_eq_true_of_le (by rw [fx_nf_of hk]; exact h2)), (fx_kf0 hf).2]
theorem fs_gfl {idx ci j k : Nat} (hc : iv_cd mi pc = some (.getfield idx)) (hp : pc + 3 = p) (hf : fx_kf mi idx ci j (fx_nf ci) 1 = true) (hk : fx_oc k ci = true) (E : fx_E z mi d p al (.long (σ.2 k j) :: r) σ v τ) : fx_E z mi d pc al (.ref k :: r) σ v τ := by
  subst hp
  obtain ⟨h1, h2⟩ := fx_kf_s hf
  refine fx_q hc rfl (fun _ => rfl) (fun h R => iv_gf_o ?_) E
  rw [fx_gf R h1 hk (Nat.ble_eq_true_of_le (by rw [fx_nf_of hk]; exact h2)), (fx_kf1 hf).2]
theorem fs_gfr {idx ci j k a : Nat} (hc : iv_cd mi pc = some (.getfield idx)) (hp : pc + 3 = p) (hf : fx_kf mi idx ci j (fx_nf ci) 2 = true) (hk : fx_oc k ci = true) (ha : fx_rf k j = a) (E : fx_E z mi d p al (.ref a :: r) σ v τ) : fx_E z mi d pc al (.ref k :: r) σ v τ := by
  subst hp ha
  obtain ⟨h1, h2⟩ := fx_kf_s hf
  refine fx_q hc rfl (fun _ => rfl) (fun h R => iv_gf_o ?_) E
  rw [fx_gf R h1 hk (Nat.ble_eq_true_of_le (by rw [fx_nf_of hk]; exact h2)), fx_kf2 hf]
/-- a field that is not final -/
def fx_kp (ci j : Nat) : Bool := !(iv_fi ci j)
theorem fs_pfi {idx ci j k : Nat} {x : Int32} (hc : iv_cd mi pc = some (.putfield idx)) (hp : pc + 3 = p) (hf : fx_kf mi idx ci j (fx_nf ci) 0 = true) (hn : fx_kp ci j = true) (hk : fx_oc k ci = true) (hx : iv_ok (iv_ft ci j) (.int x) = true) (E : fx_E z mi d p al r (fx_w1 σ k j x) v τ) : fx_E z mi d pc al (.int x :: .ref k :: r) σ v τ := by
  subst hp
  obtain ⟨h1, h2⟩ := fx_kf_s hf
  refine fx_s hc rfl (fun _ => rfl) (fun h R => ?_) E
  obtain ⟨fs, g1, g2, g3⟩ := fx_R_o R hk
  have hl : j < fs.length := by rw [g2, fx_nf_of hk]; exact h2
  refine ⟨k, .inl (ci, fs.set j (.int x)), .inl (ci, fs), ?_, g1, ?_, fx_R_f1 R (by rw [g2]; exact Prod.ext (fx_oc_s hk).2 rfl) (fx_kf0 hf).1 g3⟩
  · show (iv_pf mi idx h k (.int x)).bind _ = _
    have e : iv_pf mi idx h k (.int x) = some (some k, .inl (ci, fs.set j (.int x))) := by
      unfold iv_pf
      rw [h1, g1]
      dsimp only
      have e3 : iv_fi ci j = false := by
        unfold fx_kp at hn
        cases q : iv_fi ci j with
        | true => rw [q] at hn; cases hn
        | false => rfl
      rw [if_pos ⟨rfl, hl, hx, Or.inl e3⟩]
    rw [e]
    rfl
  · show fs.length = (fs.set j (.int x)).length
    rw [List.length_set]
theorem fs_pfl {idx ci j k : Nat} {x : Int64} (hc : iv_cd mi pc = some (.putfield idx)) (hp : pc + 3 = p) (hf : fx_kf mi idx ci j (fx_nf ci) 1 = true) (hn : fx_kp ci j = true) (hk : fx_oc k ci = true) (E : fx_E z mi d p al r (fx_w2 σ k j x) v τ) : fx_E z mi d pc al (.long x :: .ref k :: r) σ v τ := by
  subst hp
  obtain ⟨h1, h2⟩ := fx_kf_s hf
  refine fx_s hc rfl (fun _ => rfl) (fun h R => ?_) E
  obtain ⟨fs, g1, g2, g3⟩ := fx_R_o R hk
  have hl : j < fs.length := by rw [g2, fx_nf_of hk]; exact h2
  refine ⟨k, .inl (ci, fs.set j (.long x)), .inl (ci, fs), ?_, g1, ?_, fx_R_f2 R (by rw [g2]; exact Prod.ext (fx_oc_s hk).2 rfl) (fx_kf1 hf).1 g3⟩
  · show (iv_pf mi idx h k (.long x)).bind _ = _
    have e : iv_pf mi idx h k (.long x) = some (some k, .inl (ci, fs.set j (.long x))) := by
      unfold iv_pf
      rw [h1, g1]
      dsimp only
      have e3 : iv_fi ci j = false := by
        unfold fx_kp at hn
        cases q : iv_fi ci j with
        | true => rw [q] at hn; cases hn
        | false => rfl
      rw [if_pos ⟨rfl, hl, by rw [(fx_kf1 hf).1]; rfl, Or.inl e3⟩]
    rw [e]
    rfl
  · show fs.length = (fs.set j (.long x)).length
    rw [List.length_set]
theorem fx_is {k t n : Nat} {ty : FieldType} (hs : fx_sh k = (t, n)) (ht : iv_ty[t]? = some ty) : iv_is t ty = true := decide_eq_true ht
theorem fx_inn {t k : Nat} {i : Int32} {n : Nat} (g : fx_ok t k i = true) (hs : fx_sh k = (t, n)) : iv_in i n = true := by
  obtain ⟨g1, g2, g3, g4⟩ := fx_ok_s g
  rw [hs] at g4
  unfold iv_in
  rw [decide_eq_true g3, decide_eq_true g4]
  rfl
theorem fx_ai {h : iv_H} {k t n : Nat} {f : Nat → Int32} (e : h[k]? = some (.inr (t, n, .inl f))) : iv_ai h k = some (t, n, f) := by
  unfold iv_ai
  rw [e]
theorem fs_iaload {i x : Int32} {k : Nat} (hc : iv_cd mi pc = some .iaload) (hp : pc + 1 = p) (e : fx_ld σ k i = some x) (E : fx_E z mi d p al (.int x :: r) σ v τ) : fx_E z mi d pc al (.int i :: .ref k :: r) σ v τ := by
  subst hp
  obtain ⟨g, e⟩ | ⟨g, e⟩ := fx_if e
  · cases e
    refine fx_q hc rfl (fun _ => rfl) (fun h R => ?_) E
    obtain ⟨n, f, h1, h2, h3, h4⟩ := fx_R_i R g (Or.inl rfl)
    show (iv_ai h k).bind _ = _
    rw [fx_ai h1]
    show (if iv_in i n = true ∧ iv_is 0 .int = true then _ else none) = _
    rw [if_pos ⟨fx_inn g h2, rfl⟩]
    show some (pc + 1, al, Value.int (f i.toNatClampNeg) :: r, none) = _
    rw [h4 _ h3]
  · cases e
theorem fs_baload {i x : Int32} {k : Nat} (hc : iv_cd mi pc = some .baload) (hp : pc + 1 = p) (e : fx_ldb σ k i = some x) (E : fx_E z mi d p al (.int x :: r) σ v τ) : fx_E z mi d pc al (.int i :: .ref k :: r) σ v τ := by
  subst hp
  obtain ⟨g, e⟩ | ⟨g, e⟩ := fx_if e
  · cases e
    refine fx_q hc rfl (fun _ => rfl) (fun h R => ?_) E
    rcases g with g | g
    · obtain ⟨n, f, h1, h2, h3, h4⟩ := fx_R_i R g (Or.inr (Or.inr rfl))
      have q : iv_ald .byte pc al (.int i :: .ref k :: r) h = some (pc + 1, al, .int (σ.1 k i.toNatClampNeg) :: r, none) := by
        show (iv_ai h k).bind _ = _
        rw [fx_ai h1]
        show (if iv_in i n = true ∧ iv_is 3 .byte = true then _ else none) = _
        rw [if_pos ⟨fx_inn g h2, rfl⟩]
        show some (pc + 1, al, Value.int (f i.toNatClampNeg) :: r, none) = _
        rw [h4 _ h3]
      show (match iv_ald .byte pc al (.int i :: .ref k :: r) h with
        | some S => some S
        | none => iv_ald .boolean pc al (.int i :: .ref k :: r) h) = _
      rw [q]
    · obtain ⟨n, f, h1, h2, h3, h4⟩ := fx_R_i R g (Or.inr (Or.inl rfl))
      have q : iv_ald .byte pc al (.int i :: .ref k :: r) h = none := by
        show (iv_ai h k).bind _ = _
        rw [fx_ai h1]
        show (if iv_in i n = true ∧ iv_is 2 .byte = true then _ else none) = _
        rw [if_neg (fun q => absurd q.2 (by decide))]
      have q2 : iv_ald .boolean pc al (.int i :: .ref k :: r) h = some (pc + 1, al, .int (σ.1 k i.toNatClampNeg) :: r, none) := by
        show (iv_ai h k).bind _ = _
        rw [fx_ai h1]
        show (if iv_in i n = true ∧ iv_is 2 .boolean = true then _ else none) = _
        rw [if_pos ⟨fx_inn g h2, rfl⟩]
        show some (pc + 1, al, Value.int (f i.toNatClampNeg) :: r, none) = _
        rw [h4 _ h3]
      show (match iv_ald .byte pc al (.int i :: .ref k :: r) h with
        | some S => some S
        | none => iv_ald .boolean pc al (.int i :: .ref k :: r) h) = _
      rw [q]
      exact q2
  · cases e
theorem fs_laload {i : Int32} {x : Int64} {k : Nat} (hc : iv_cd mi pc = some .laload) (hp : pc + 1 = p) (e : fx_ldl σ k i = some x) (E : fx_E z mi d p al (.long x :: r) σ v τ) : fx_E z mi d pc al (.int i :: .ref k :: r) σ v τ := by
  subst hp
  obtain ⟨g, e⟩ | ⟨g, e⟩ := fx_if e
  · cases e
    refine fx_q hc rfl (fun _ => rfl) (fun h R => ?_) E
    obtain ⟨n, f, h1, h2, h3, h4⟩ := fx_R_l R g
    have q : iv_aj h k = some (1, n, f) := by unfold iv_aj; rw [h1]
    show (iv_aj h k).bind _ = _
    rw [q]
    show (if iv_in i n = true ∧ iv_is 1 .long = true then _ else none) = _
    rw [if_pos ⟨fx_inn g h2, rfl⟩]
    show some (pc + 1, al, Value.long (f i.toNatClampNeg) :: r, none) = _
    rw [h4 _ h3]
  · cases e
theorem fs_aaload {i : Int32} {t k a : Nat} (hc : iv_cd mi pc = some .aaload) (hp : pc + 1 = p) (ht : (Nat.ble 4 t && Nat.blt t 99 && iv_iq t) = true) (e : fx_ldr t k i = some a) (E : fx_E z mi d p al (.ref a :: r) σ v τ) : fx_E z mi d pc al (.int i :: .ref k :: r) σ v τ := by
  subst hp
  simp only [Bool.and_eq_true] at ht
  obtain ⟨⟨t1, t2⟩, t3⟩ := ht
  obtain ⟨g, e⟩ | ⟨g, e⟩ := fx_if e
  · cases e
    refine fx_q hc rfl (fun _ => rfl) (fun h R => ?_) E
    obtain ⟨n, f, h1, h2, h3, h4⟩ := fx_R_r R g ⟨Nat.le_of_ble_eq_true t1, Nat.le_of_ble_eq_true t2⟩
    have q : iv_aq h k = some (t, n, f) := by unfold iv_aq; rw [h1]
    show (iv_aq h k).bind _ = _
    rw [q]
    show (if iv_in i n = true ∧ iv_iq t = true then (match f i.toNatClampNeg with
      | some b => some (pc + 1, al, Value.ref b :: r, none)
      | none => none) else none) = _
    rw [if_pos ⟨fx_inn g h2, t3⟩, h4 _ h3]
  · cases e
theorem fs_iastore {i x : Int32} {k : Nat} (hc : iv_cd mi pc = some .iastore) (hp : pc + 1 = p) (e : fx_st σ k i x = some σ2) (E : fx_E z mi d p al r σ2 v τ) : fx_E z mi d pc al (.int x :: .int i :: .ref k :: r) σ v τ := by
  subst hp
  obtain ⟨g, e⟩ | ⟨g, e⟩ := fx_if e
  · cases e
    refine fx_s hc rfl (fun _ => rfl) (fun h R => ?_) E
    obtain ⟨n, f, h1, h2, h3, h4⟩ := fx_R_i R g (Or.inl rfl)
    refine ⟨k, .inr (0, n, .inl (upd f i.toNatClampNeg x)), _, ?_, h1, rfl, fx_R_1 R h2 (Or.inl rfl) h4⟩
    show (iv_ai h k).bind _ = _
    rw [fx_ai h1]
    show (if iv_in i n = true ∧ iv_is 0 .int = true then _ else none) = _
    rw [if_pos ⟨fx_inn g h2, rfl⟩]
    rfl
  · cases e
theorem fs_lastore {i : Int32} {x : Int64} {k : Nat} (hc : iv_cd mi pc = some .lastore) (hp : pc + 1 = p) (e : fx_stl σ k i x = some σ2) (E : fx_E z mi d p al r σ2 v τ) : fx_E z mi d pc al (.long x :: .int i :: .ref k :: r) σ v τ := by
  subst hp
  obtain ⟨g, e⟩ | ⟨g, e⟩ := fx_if e
  · cases e
    refine fx_s hc rfl (fun _ => rfl) (fun h R => ?_) E
    obtain ⟨n, f, h1, h2, h3, h4⟩ := fx_R_l R g
    refine ⟨k, .inr (1, n, .inr (.inl (vp_updL f i.toNatClampNeg x))), _, ?_, h1, rfl, fx_R_2 R h2 h4⟩
    have q : iv_aj h k = some (1, n, f) := by unfold iv_aj; rw [h1]
    show (iv_aj h k).bind _ = _
    rw [q]
    show (if iv_in i n = true ∧ iv_is 1 .long = true then _ else none) = _
    rw [if_pos ⟨fx_inn g h2, rfl⟩]
  · cases e
theorem fs_bastore {i x : Int32} {k : Nat} (hc : iv_cd mi pc = some .bastore) (hp : pc + 1 = p) (e : fx_stb σ k i x = some σ2) (E : fx_E z mi d p al r σ2 v τ) : fx_E z mi d pc al (.int x :: .int i :: .ref k :: r) σ v τ := by
  subst hp
  obtain ⟨g, e⟩ | ⟨g0, e⟩ := fx_if e
  · cases e
    refine fx_s hc rfl (fun _ => rfl) (fun h R => ?_) E
    obtain ⟨n, f, h1, h2, h3, h4⟩ := fx_R_i R g (Or.inr (Or.inr rfl))
    refine ⟨k, .inr (3, n, .inl (upd f i.toNatClampNeg (vp_nar .byte x))), _, ?_, h1, rfl, fx_R_1 R h2 (Or.inr (Or.inr rfl)) h4⟩
    have q : iv_ast .byte pc al (.int x :: .int i :: .ref k :: r) h = some (pc + 1, al, r, some (some k, .inr (3, n, .inl (upd f i.toNatClampNeg (vp_nar .byte x))))) := by
      show (iv_ai h k).bind _ = _
      rw [fx_ai h1]
      show (if iv_in i n = true ∧ iv_is 3 .byte = true then _ else none) = _
      rw [if_pos ⟨fx_inn g h2, rfl⟩]
    show (match iv_ast .byte pc al (.int x :: .int i :: .ref k :: r) h with
      | some S => some S
      | none => iv_ast .boolean pc al (.int x :: .int i :: .ref k :: r) h) = _
    rw [q]
  · obtain ⟨g, e⟩ | ⟨g, e⟩ := fx_if e
    · cases e
      refine fx_s hc rfl (fun _ => rfl) (fun h R => ?_) E
      obtain ⟨n, f, h1, h2, h3, h4⟩ := fx_R_i R g (Or.inr (Or.inl rfl))
      refine ⟨k, .inr (2, n, .inl (upd f i.toNatClampNeg (vp_nar .boolean x))), _, ?_, h1, rfl, fx_R_1 R h2 (Or.inr (Or.inl rfl)) h4⟩
      have q0 : iv_ast .byte pc al (.int x :: .int i :: .ref k :: r) h = none := by
        show (iv_ai h k).bind _ = _
        rw [fx_ai h1]
        show (if iv_in i n = true ∧ iv_is 2 .byte = true then _ else none) = _
        rw [if_neg (fun q => absurd q.2 (by decide))]
      have q : iv_ast .boolean pc al (.int x :: .int i :: .ref k :: r) h = some (pc + 1, al, r, some (some k, .inr (2, n, .inl (upd f i.toNatClampNeg (vp_nar .boolean x))))) := by
        show (iv_ai h k).bind _ = _
        rw [fx_ai h1]
        show (if iv_in i n = true ∧ iv_is 2 .boolean = true then _ else none) = _
        rw [if_pos ⟨fx_inn g h2, rfl⟩]
      show (match iv_ast .byte pc al (.int x :: .int i :: .ref k :: r) h with
        | some S => some S
        | none => iv_ast .boolean pc al (.int x :: .int i :: .ref k :: r) h) = _
      rw [q0]
      exact q
    · cases e
theorem fs_alen {k : Nat} (hc : iv_cd mi pc = some .arraylength) (hp : pc + 1 = p) (hk : fx_ok (fx_sh k).1 k 0 = true) (ht : fx_sh k = (0, (fx_sh k).2)) (E : fx_E z mi d p al (.int (fx_len k) :: r) σ v τ) : fx_E z mi d pc al (.ref k :: r) σ v τ := by
  subst hp
  refine fx_q hc rfl (fun _ => rfl) (fun h R => ?_) E
  rw [ht] at hk
  obtain ⟨n, f, h1, h2, h3, h4⟩ := fx_R_i R hk (Or.inl rfl)
  show (match h[k]? with
      | some (.inr a) => if (iv_ty[a.1]?).isSome = true then iv_pi (pc + 1) al (Int32.ofNat a.2.1) r else none
      | _ => none) = _
  rw [h1]
  dsimp only
  rw [if_pos (show (iv_ty[0]?).isSome = true from rfl)]
  unfold fx_len
  rw [h2]
  rfl
theorem fs_cpy {idx a b : Nat} {sp dp n : Int32} (hc : iv_cd mi pc = some (.invokestatic idx)) (hp : pc + 3 = p) (hq : (iv_cp (iv_kf mi) idx && (iv_mt (iv_kf mi) idx).isNone) = true) (hr : Nat.ble (r.map fun v => v.category).sum 8 = true) (e : fx_cpy σ a sp b dp n = some σ2) (E : fx_E z mi d p al r σ2 v τ) : fx_E z mi d pc al (.int n :: .int dp :: .ref b :: .int sp :: .ref a :: r) σ v τ := by
  subst hp
  simp only [Bool.and_eq_true] at hq
  obtain ⟨q1, q2⟩ := hq
  obtain ⟨g, e⟩ | ⟨g, e⟩ := fx_if e
  · obtain ⟨a1, b1, a2, b2, s1, s2, s3, s4, s5⟩ := g
    cases e
    have q3 : iv_mt (iv_kf mi) idx = none := Option.isNone_iff_eq_none.mp q2
    refine fx_s hc rfl (fun h => ?_) (fun h R => ?_) E
    · unfold iv_ca
      show (match iv_mt (iv_kf mi) idx with
        | none => none
        | some mj => _) = none
      rw [q3]
    · have la := Nat.le_of_ble_eq_true a1
      have lb := Nat.le_of_ble_eq_true b1
      have cell : ∀ k, k < fx_N → (fx_sh k).1 = 0 → ∃ (m : Nat) (f : Nat → Int32), h[k]? = some (.inr (0, m, .inl f)) ∧ fx_sh k = (0, m) ∧ ∀ j, j < m → f j = σ.1 k j := by
        intro k hk h0
        obtain ⟨c, h1, h2⟩ := R.2 k hk
        match c, h2 with
        | .inl (c, fs), h2 => exact absurd (by rw [← h0, h2.1] : 0 = 100 + c) (by omega)
        | .inr (t', m, .inl f), h2 =>
          obtain ⟨e1, e2, e3⟩ := h2
          have e : t' = 0 := by rw [← h0, e1]
          subst e
          exact ⟨m, f, h1, e1, e3⟩
        | .inr (t', n, .inr (.inl f)), h2 => exact absurd (by rw [← h0, h2.1] : 0 = t') (by have := h2.2.1; omega)
        | .inr (t', n, .inr (.inr (.inl f))), h2 => exact h2.elim
        | .inr (t', n, .inr (.inr (.inr (.inl f)))), h2 => exact h2.elim
        | .inr (t', n, .inr (.inr (.inr (.inr f)))), h2 => exact absurd (by rw [← h0, h2.1] : 0 = t') (by have := h2.2.1; omega)
      obtain ⟨ma, fa, ha1, ha2, ha3⟩ := cell a la a2
      obtain ⟨mb, fb, hb1, hb2, hb3⟩ := cell b lb b2
      rw [ha2] at s4
      rw [hb2] at s5
      refine ⟨b, .inr (0, mb, .inl (va_cpy fa fb sp.toNatClampNeg dp.toNatClampNeg n.toNatClampNeg)), _, ?_, hb1, rfl, ?_⟩
      · show (if iv_cp (iv_kf mi) idx = true then iv_cpy z pc al _ h else _) = _
        rw [if_pos q1]
        show ((iv_ai h a).bind fun q => (iv_ai h b).bind fun u => _) = _
        rw [fx_ai ha1, fx_ai hb1]
        show (if iv_cpR (0, ma, fa) (0, mb, fb) sp dp n r = true ∧ ((iv_is 0 .int = true ∧ iv_is 0 .int = true) ∨ (iv_is 0 .byte = true ∧ iv_is 0 .byte = true)) then _ else none) = _
        rw [if_pos ⟨by simp only [iv_cpR, iv_ck8, Bool.and_eq_true, decide_eq_true_eq]; exact ⟨s1, s2, s3, s4, s5, Nat.le_of_ble_eq_true hr⟩, Or.inl ⟨rfl, rfl⟩⟩]
      · refine fx_R_set R ⟨hb2, Or.inl rfl, fun j hj => ?_⟩ fun k c' hk hc' => ?_
        · show (if dp.toNatClampNeg ≤ j ∧ j < dp.toNatClampNeg + n.toNatClampNeg then fa (sp.toNatClampNeg + (j - dp.toNatClampNeg)) else fb j) = if b = b ∧ dp.toNatClampNeg ≤ j ∧ j < dp.toNatClampNeg + n.toNatClampNeg then σ.1 a (sp.toNatClampNeg + (j - dp.toNatClampNeg)) else σ.1 b j
          by_cases q : dp.toNatClampNeg ≤ j ∧ j < dp.toNatClampNeg + n.toNatClampNeg
          · rw [if_pos q, if_pos ⟨rfl, q⟩]
            exact ha3 _ (by omega)
          · rw [if_neg q, if_neg (fun u => q u.2)]
            exact hb3 j hj
        · have e : ∀ i, (fx_cp σ a sp.toNatClampNeg b dp.toNatClampNeg n.toNatClampNeg).1 k i = σ.1 k i := fun i => if_neg fun q => hk q.1
          match c', hc' with
          | .inl (c, fs), hh =>
            refine ⟨hh.1, fun i hi => (hh.2 i hi).trans ?_⟩
            unfold fx_fv
            rw [e]
            rfl
          | .inr (t, n, .inl f), hh => exact ⟨hh.1, hh.2.1, fun i hi => (hh.2.2 i hi).trans (e i).symm⟩
          | .inr (t, n, .inr (.inl f)), hh => exact hh
          | .inr (t, n, .inr (.inr (.inl f))), hh => exact hh.elim
          | .inr (t, n, .inr (.inr (.inr (.inl f)))), hh => exact hh.elim
          | .inr (t, n, .inr (.inr (.inr (.inr f)))), hh => exact hh
  · cases e
theorem fs_min {idx : Nat} {x y : Int32} (hc : iv_cd mi pc = some (.invokestatic idx)) (hp : pc + 3 = p) (hq : (!(iv_cp (iv_kf mi) idx) && iv_mm (iv_kf mi) idx && (iv_mt (iv_kf mi) idx).isNone) = true) (hr : Nat.ble (r.map fun v => v.category).sum 8 = true) (E : fx_E z mi d p al (.int (if y < x then y else x) :: r) σ v τ) : fx_E z mi d pc al (.int y :: .int x :: r) σ v τ := by
  subst hp
  simp only [Bool.and_eq_true, Bool.not_eq_true'] at hq
  obtain ⟨⟨q1, q2⟩, q3⟩ := hq
  have q4 : iv_mt (iv_kf mi) idx = none := Option.isNone_iff_eq_none.mp q3
  refine fx_p hc rfl (fun h => ?_) (fun h => ?_) E
  · unfold iv_ca
    show (match iv_mt (iv_kf mi) idx with
      | none => none
      | some mj => _) = none
    rw [q4]
  · show (if iv_cp (iv_kf mi) idx = true then iv_cpy z pc al _ h else if iv_mm (iv_kf mi) idx = true then iv_min pc al (.int y :: .int x :: r) else _) = _
    rw [if_neg (by rw [q1]; decide), if_pos q2]
    show (if (r.map fun v => v.category).sum ≤ 8 then _ else none) = _
    rw [if_pos (Nat.le_of_ble_eq_true hr)]
    rfl
theorem fs_max {idx : Nat} {x y : Int32} (hc : iv_cd mi pc = some (.invokestatic idx)) (hp : pc + 3 = p) (hq : (!(iv_cp (iv_kf mi) idx) && !(iv_mm (iv_kf mi) idx) && iv_ma (iv_kf mi) idx && (iv_mt (iv_kf mi) idx).isNone) = true) (hr : Nat.ble (r.map fun v => v.category).sum 8 = true) (E : fx_E z mi d p al (.int (if x < y then y else x) :: r) σ v τ) : fx_E z mi d pc al (.int y :: .int x :: r) σ v τ := by
  subst hp
  simp only [Bool.and_eq_true, Bool.not_eq_true'] at hq
  obtain ⟨⟨⟨q1, q2⟩, q5⟩, q3⟩ := hq
  have q4 : iv_mt (iv_kf mi) idx = none := Option.isNone_iff_eq_none.mp q3
  refine fx_p hc rfl (fun h => ?_) (fun h => ?_) E
  · unfold iv_ca
    show (match iv_mt (iv_kf mi) idx with
      | none => none
      | some mj => _) = none
    rw [q4]
  · show (if iv_cp (iv_kf mi) idx = true then iv_cpy z pc al _ h else if iv_mm (iv_kf mi) idx = true then iv_min pc al (.int y :: .int x :: r) else if iv_ma (iv_kf mi) idx = true then iv_max pc al (.int y :: .int x :: r) else _) = _
    rw [if_neg (by rw [q1]; decide), if_neg (by rw [q2]; decide), if_pos q5]
    show (if (r.map fun v => v.category).sum ≤ 8 then _ else none) = _
    rw [if_pos (Nat.le_of_ble_eq_true hr)]
    rfl
/-- returns -/
theorem fx_ret {op : Jvm.ClassFile.Instr} {st : List Value} (hc : iv_cd mi pc = some op) (h0 : iv_isr op = true) (h1 : iv_re mi op st = some v) : fx_E z mi d pc al st σ v σ := by
  intro h R
  refine ⟨1, h, ?_, R⟩
  unfold iv_run
  dsimp only
  rw [hc]
  dsimp only
  rw [if_pos h0, h1]
  rfl
theorem fs_ret (hc : iv_cd mi pc = some .return_) (hr : iv_rt mi = none) : fx_E z mi d pc al [] σ none σ := fx_ret hc rfl (by show (if iv_rt mi = none then some none else none) = _; rw [if_pos hr])
theorem fs_iret {x : Int32} (hc : iv_cd mi pc = some .ireturn) (hr : iv_rt mi = some .int) : fx_E z mi d pc al [.int x] σ (some (Value.int x)) σ := fx_ret hc rfl (by
  show (if iv_ro (iv_rt mi) (Value.int x) = true then some (some (Value.int x)) else none) = _
  rw [hr, if_pos (show iv_ro (some .int) (Value.int x) = true from rfl)])
theorem fx_okb (b : Bool) : iv_ok .boolean (Value.int (fx_b b)) = true := by cases b <;> rfl
theorem fx_oki (x : Int32) {ci j : Nat} (h : iv_ft ci j = .int) : iv_ok (iv_ft ci j) (Value.int x) = true := (congrArg (fun t => iv_ok t (Value.int x)) h).trans rfl
theorem fx_okz (b : Bool) {ci j : Nat} (h : iv_ft ci j = .boolean) : iv_ok (iv_ft ci j) (Value.int (fx_b b)) = true := (congrArg (fun t => iv_ok t (Value.int (fx_b b))) h).trans (fx_okb b)
theorem fx_okd {x : Int32} {ci j : Nat} (hx : x = 0 ∨ x = 1) (h : iv_ft ci j = .boolean) : iv_ok (iv_ft ci j) (Value.int x) = true := (congrArg (fun t => iv_ok t (Value.int x)) h).trans (by rcases hx with e | e <;> subst e <;> rfl)
theorem fs_zret {b : Bool} (hc : iv_cd mi pc = some .ireturn) (hr : iv_rt mi = some .boolean) : fx_E z mi d pc al [.int (fx_b b)] σ (some (Value.int (fx_b b))) σ := fx_ret hc rfl (by
  show (if iv_ro (iv_rt mi) (Value.int (fx_b b)) = true then some (some (Value.int (fx_b b))) else none) = _
  rw [hr, if_pos (show iv_ro (some .boolean) (Value.int (fx_b b)) = true from fx_okb b)])
theorem fs_lret {x : Int64} (hc : iv_cd mi pc = some .lreturn) (hr : iv_rt mi = some .long) : fx_E z mi d pc al [.long x] σ (some (Value.long x)) σ := fx_ret hc rfl (by
  show (if iv_ro (iv_rt mi) (Value.long x) = true then some (some (Value.long x)) else none) = _
  rw [hr, if_pos (show iv_ro (some .long) (Value.long x) = true from rfl)])
theorem fs_aret {x : Nat} (hc : iv_cd mi pc = some .areturn) (hr : iv_rq (iv_rt mi) = true) : fx_E z mi d pc al [.ref x] σ (some (Value.ref x)) σ := fx_ret hc rfl (by
  show (if iv_rq (iv_rt mi) = true then some (some (Value.ref x)) else none) = _
  rw [if_pos hr])
/-- calls -/
theorem fx_call {op : Jvm.ClassFile.Instr} {st args rest : List Value} {mj : Nat} {u : Option Value} (hc : iv_cd mi pc = some op) (h0 : iv_isr op = false) (h1 : ∀ h : iv_H, fx_R σ h → iv_ca z mi op st h = some (mj, args, rest)) (hd : 0 < d) (C : ∀ d', d = d' + 1 → fx_E z mj d' 0 (iv_en mj args) [] σ u σ2) (E : fx_E z mi d (pc + 3) al (u.toList ++ rest) σ2 v τ) : fx_E z mi d pc al st σ v τ := by
  intro h R
  obtain ⟨d', rfl⟩ : ∃ d', d = d' + 1 := ⟨d - 1, by omega⟩
  obtain ⟨n1, h2, e1, R2⟩ := C d' rfl h R
  obtain ⟨n2, h3, e2, R3⟩ := E h2 R2
  refine ⟨max n1 n2 + 1, h3, ?_, R3⟩
  unfold iv_run
  dsimp only
  rw [hc]
  dsimp only
  rw [if_neg (by rw [h0]; decide), h1 h R]
  dsimp only
  rw [iv_run_up e1 (Nat.le_max_left n1 n2)]
  dsimp only
  exact iv_run_up e2 (Nat.le_max_right n1 n2)
/-- what is asked of a call's numbers: na arguments, mx locals of the callee -/
def fx_kS (mi idx mj na mx : Nat) : Bool := decide (iv_mt (iv_kf mi) idx = some mj) && Nat.beq (iv_na mj) na && decide (iv_rc mj = none) && !(iv_ini mj) && Nat.beq (iv_mx mj) mx && (iv_kd (iv_kf mi) idx).isNone
def fx_kV (mi idx mj ci na mx : Nat) : Bool := decide (iv_mt (iv_kf mi) idx = some mj) && Nat.beq (iv_na mj) na && decide (iv_rc mj = some ci) && !(iv_ini mj) && Nat.beq (iv_mx mj) mx && iv_kk_ mi idx mj 0
theorem fs_callS {idx mj na mx : Nat} {st args rest st2 : List Value} {al2 : iv_L} {u : Option Value} (hc : iv_cd mi pc = some (.invokestatic idx)) (hp : pc + 3 = p) (hk : fx_kS mi idx mj na mx = true) (ha : (st.take na).reverse = args) (hr : st.drop na = rest) (hl : Nat.beq (st.take na).length na = true) (hn : true = true) (hx : Nat.ble (iv_ex args).length mx = true) (hs : Nat.ble (rest.map fun v => v.category).sum 8 = true) (he : iv_ex args ++ List.replicate (mx - (iv_ex args).length) none = al2) (hd : 0 < d) (C : ∀ d', d = d' + 1 → fx_E z mj d' 0 al2 [] σ u σ2) (h2 : u.toList ++ rest = st2) (E : fx_E z mi d p al st2 σ2 v τ) : fx_E z mi d pc al st σ v τ := by
  subst hp ha hr he h2
  simp only [fx_kS, Bool.and_eq_true, decide_eq_true_eq, Bool.not_eq_true'] at hk
  obtain ⟨⟨⟨⟨⟨k1, k2⟩, k3⟩, k4⟩, k5⟩, k6⟩ := hk
  have k2 := Nat.eq_of_beq_eq_true k2
  have k5 := Nat.eq_of_beq_eq_true k5
  refine fx_call (mj := mj) (args := (st.take na).reverse) (rest := st.drop na) hc rfl (fun h R => ?_) hd (fun d' e => ?_) E
  · unfold iv_ca
    show (match iv_mt (iv_kf mi) idx with
      | none => none
      | some mj => _) = _
    rw [k1]
    dsimp only
    rw [k2, if_pos ⟨Nat.eq_of_beq_eq_true hl, by unfold iv_rx; rw [k3, k5]; have := Nat.le_of_ble_eq_true hx; show _ + 1 ≤ mx + 1; omega⟩, if_pos (show (2 : Nat) = 2 from rfl), if_pos ⟨k3, k4, Option.isNone_iff_eq_none.mp k6, Nat.le_of_ble_eq_true hs⟩]
  · have := C d' e
    unfold iv_en
    rw [k5]
    exact this
theorem fs_callV {idx mj ci na mx k : Nat} {st args rest st2 : List Value} {al2 : iv_L} {u : Option Value} (hc : iv_cd mi pc = some (.invokevirtual idx)) (hp : pc + 3 = p) (hk : fx_kV mi idx mj ci na mx = true) (ho : fx_oc k ci = true) (ha : .ref k :: (st.take na).reverse = args) (hr : st.drop na = .ref k :: rest) (hl : Nat.beq (st.take na).length na = true) (hn : true = true) (hx : Nat.ble (iv_ex args).length mx = true) (hs : Nat.ble (rest.map fun v => v.category).sum 8 = true) (he : iv_ex args ++ List.replicate (mx - (iv_ex args).length) none = al2) (hd : 0 < d) (C : ∀ d', d = d' + 1 → fx_E z mj d' 0 al2 [] σ u σ2) (h2 : u.toList ++ rest = st2) (E : fx_E z mi d p al st2 σ2 v τ) : fx_E z mi d pc al st σ v τ := by
  subst hp ha he h2
  simp only [fx_kV, Bool.and_eq_true, decide_eq_true_eq, Bool.not_eq_true'] at hk
  obtain ⟨⟨⟨⟨⟨k1, k2⟩, k3⟩, k4⟩, k5⟩, k6⟩ := hk
  have k2 := Nat.eq_of_beq_eq_true k2
  have k5 := Nat.eq_of_beq_eq_true k5
  refine fx_call (mj := mj) (args := .ref k :: (st.take na).reverse) (rest := rest) hc rfl (fun h R => ?_) hd (fun d' e => ?_) E
  · obtain ⟨fs, g1, g2, g3⟩ := fx_R_o R ho
    have hx' : (iv_ex (st.take na).reverse).length + 1 ≤ mx := Nat.le_of_ble_eq_true hx
    unfold iv_ca
    show (match iv_mt (iv_kf mi) idx with
      | none => none
      | some mj => _) = _
    rw [k1]
    dsimp only
    rw [k2, if_pos ⟨Nat.eq_of_beq_eq_true hl, by unfold iv_rx; rw [k3, k5]; show _ + 1 ≤ mx + 0; omega⟩, if_neg (show ¬ (0 : Nat) = 2 by decide), hr]
    show (match iv_rc mj with
      | none => none
      | some ci => _) = _
    rw [k3]
    dsimp only
    rw [if_pos ⟨by unfold iv_oc; rw [g1]; exact decide_eq_true rfl, Nat.le_of_ble_eq_true hs, k6⟩]
  · have := C d' e
    unfold iv_en
    rw [k5]
    exact this
end
/-- the law's own script -/
def fx_lds (L : Nat) (xs : Nat → Int32) (i : Int32) : Option Int32 := if iv_in i L = true then some (xs i.toNatClampNeg) else none
theorem fx_gd {α : Type} {c : Prop} [Decidable c] {a : Option α} {r : α} (h : (if c then a else none) = some r) : c ∧ a = some r := by
  by_cases q : c
  · rw [if_pos q] at h; exact ⟨q, h⟩
  · rw [if_neg q] at h; cases h
