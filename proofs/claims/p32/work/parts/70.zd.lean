/-! DOUBLES AND FLOATS are the same in both -/
theorem gd2 {f : UInt64 → UInt64 → UInt64} {a b x y : UInt64} (ha : a = x) (hb : b = y) : f a b = f x y := by subst ha hb; rfl
theorem gd1 {f : UInt64 → UInt64} {a x : UInt64} (ha : a = x) : f a = f x := by subst ha; rfl
theorem gdc {a b x y : UInt64} {c : CmpOp} (ha : a = x) (hb : b = y) : Op.cmpValue (FP.dcmp a b) c = Int32.ofInt (Op.cmpValue (FP.dcmp x y) c).toInt := by subst ha hb; exact (Int32.ofInt_toInt _).symm
theorem gdl {f : UInt64 → Int64} {a x : UInt64} (ha : a = x) : f a = Int64.ofInt (f x).toInt := by subst ha; exact (Int64.ofInt_toInt _).symm
theorem gdf {f : UInt32 → Int32} {a x : UInt32} (ha : a = x) : f a = Int32.ofInt (f x).toInt := by subst ha; exact (Int32.ofInt_toInt _).symm
theorem gdn {a x : UInt64} (ha : a = x) (h : id_n6 x = true) : id_n6 a = true := by subst ha; exact h
theorem gdn3 {a x : UInt32} (ha : a = x) (h : id_n3 x = true) : id_n3 a = true := by subst ha; exact h
theorem gs_r2 (x : Int64) : -9223372036854775808 ≤ x.toInt ∧ x.toInt ≤ 9223372036854775807 := by
  have h1 := Int64.le_toInt x
  have h2 := Int64.toInt_lt x
  exact ⟨by omega, by omega⟩
