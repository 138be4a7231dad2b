/-! STATES OVER WHOLE NUMBERS: gx makes the machine's out of them. What the plain functions do over Int32, Int64 they do over Int, as long as nothing that is asked of a number lies beyond its range. -/
abbrev gx_S : Type := (Nat → Nat → Int) × (Nat → Nat → Int)
def gx (s : gx_S) : fx_S := (fun k i => Int32.ofInt (s.1 k i), fun k i => Int64.ofInt (s.2 k i))
def gw1 (s : gx_S) (k j : Nat) (x : Int) : gx_S := (fun a b => if a = k ∧ b = j then x else s.1 a b, s.2)
def gw2 (s : gx_S) (k j : Nat) (x : Int) : gx_S := (s.1, fun a b => if a = k ∧ b = j then x else s.2 a b)
def gcp (s : gx_S) (a sp b dp n : Nat) : gx_S := (fun k j => if k = b ∧ dp ≤ j ∧ j < dp + n then s.1 a (sp + (j - dp)) else s.1 k j, s.2)
def gb (b : Bool) : Int := if b = true then 1 else 0
theorem gb_r (b : Bool) : -2147483648 ≤ gb b ∧ gb b ≤ 2147483647 := by cases b <;> decide
theorem gx_w1 {σ : fx_S} {s : gx_S} {k j : Nat} {a : Int32} {x : Int} (hs : σ = gx s) (hx : a = Int32.ofInt x) : fx_w1 σ k j a = gx (gw1 s k j x) := by
  subst hs hx
  refine Prod.ext (funext fun a => funext fun b => ?_) rfl
  show (if a = k ∧ b = j then Int32.ofInt x else Int32.ofInt (s.1 a b)) = Int32.ofInt (if a = k ∧ b = j then x else s.1 a b)
  split <;> rfl
theorem gx_w2 {σ : fx_S} {s : gx_S} {k j : Nat} {a : Int64} {x : Int} (hs : σ = gx s) (hx : a = Int64.ofInt x) : fx_w2 σ k j a = gx (gw2 s k j x) := by
  subst hs hx
  refine Prod.ext rfl (funext fun a => funext fun b => ?_)
  show (if a = k ∧ b = j then Int64.ofInt x else Int64.ofInt (s.2 a b)) = Int64.ofInt (if a = k ∧ b = j then x else s.2 a b)
  split <;> rfl
theorem gr (x : Int) : Int32.ofInt x = Int32.ofInt x := rfl
theorem gr2 (x : Int) : Int64.ofInt x = Int64.ofInt x := rfl
theorem gf1 {σ : fx_S} {s : gx_S} (hs : σ = gx s) (k j : Nat) : σ.1 k j = Int32.ofInt (s.1 k j) := by subst hs; rfl
theorem gf2 {σ : fx_S} {s : gx_S} (hs : σ = gx s) (k j : Nat) : σ.2 k j = Int64.ofInt (s.2 k j) := by subst hs; rfl
theorem gb_b (b : Bool) : fx_b b = Int32.ofInt (gb b) := by cases b <;> rfl
theorem gb_bind {α β : Type} {o : Option α} {f : α → Option β} {x : α} {r : Option β} (e : o = some x) (h : f x = r) : o.bind f = r := by subst e; exact h
theorem gb_t {α : Type} {c : Prop} [Decidable c] {a b r : α} (hc : c) (h : a = r) : (if c then a else b) = r := (if_pos hc).trans h
theorem gb_f {α : Type} {c : Prop} [Decidable c] {a b r : α} (hc : ¬ c) (h : b = r) : (if c then a else b) = r := (if_neg hc).trans h
theorem gret {a : Int32} {x : Int} {σ : fx_S} {s : gx_S} (h : a = Int32.ofInt x) (hs : σ = gx s) : some (a, σ) = some (Int32.ofInt x, gx s) := by subst h hs; rfl
theorem gretl {a : Int64} {x : Int} {σ : fx_S} {s : gx_S} (h : a = Int64.ofInt x) (hs : σ = gx s) : some (a, σ) = some (Int64.ofInt x, gx s) := by subst h hs; rfl
theorem gretb {b : Bool} {σ : fx_S} {s : gx_S} (hs : σ = gx s) : some (b, σ) = some (b, gx s) := by subst hs; rfl
theorem gretv {σ : fx_S} {s : gx_S} (hs : σ = gx s) : some σ = some (gx s) := by subst hs; rfl
theorem gc_len (k : Nat) : fx_len k = Int32.ofInt ((fx_sh k).2 : Int) := by exact (Int32.ofInt_eq_ofNat).symm
theorem ga_add {a b : Int32} {x y : Int} (ha : a = Int32.ofInt x) (hb : b = Int32.ofInt y) : a + b = Int32.ofInt (x + y) := by rw [ha, hb, Int32.ofInt_add]
theorem ga_sub {a b : Int32} {x y : Int} (ha : a = Int32.ofInt x) (hb : b = Int32.ofInt y) : a - b = Int32.ofInt (x - y) := by rw [ha, hb, Int32.ofInt_sub]
theorem ga_mul {a b : Int32} {x y : Int} (ha : a = Int32.ofInt x) (hb : b = Int32.ofInt y) : a * b = Int32.ofInt (x * y) := by rw [ha, hb, Int32.ofInt_mul]
theorem ga_neg {a : Int32} {x : Int} (ha : a = Int32.ofInt x) : -a = Int32.ofInt (-x) := by rw [ha, Int32.ofInt_neg]
theorem ga_ti {x : Int} (h : (-2147483648 ≤ x ∧ x ≤ 2147483647)) : (Int32.ofInt x).toInt = x := Int32.toInt_ofInt_of_le (by have := h.1; omega) (by have := h.2; omega)
theorem gc_lt {a b : Int32} {x y : Int} (ha : a = Int32.ofInt x) (hb : b = Int32.ofInt y) (hx : (-2147483648 ≤ x ∧ x ≤ 2147483647)) (hy : (-2147483648 ≤ y ∧ y ≤ 2147483647)) : a < b ↔ x < y := by rw [ha, hb, Int32.lt_iff_toInt_lt, ga_ti hx, ga_ti hy]
theorem gc_le {a b : Int32} {x y : Int} (ha : a = Int32.ofInt x) (hb : b = Int32.ofInt y) (hx : (-2147483648 ≤ x ∧ x ≤ 2147483647)) (hy : (-2147483648 ≤ y ∧ y ≤ 2147483647)) : a ≤ b ↔ x ≤ y := by rw [ha, hb, Int32.le_iff_toInt_le, ga_ti hx, ga_ti hy]
theorem gc_eq {a b : Int32} {x y : Int} (ha : a = Int32.ofInt x) (hb : b = Int32.ofInt y) (hx : (-2147483648 ≤ x ∧ x ≤ 2147483647)) (hy : (-2147483648 ≤ y ∧ y ≤ 2147483647)) : a = b ↔ x = y := by rw [ha, hb, ← Int32.toInt_inj, ga_ti hx, ga_ti hy]
theorem gc_ne {a b : Int32} {x y : Int} (ha : a = Int32.ofInt x) (hb : b = Int32.ofInt y) (hx : (-2147483648 ≤ x ∧ x ≤ 2147483647)) (hy : (-2147483648 ≤ y ∧ y ≤ 2147483647)) : ¬ a = b ↔ ¬ x = y := not_congr (gc_eq ha hb hx hy)
theorem ga_div {a b : Int32} {x y : Int} (ha : a = Int32.ofInt x) (hb : b = Int32.ofInt y) (h : 0 ≤ x ∧ x ≤ 2147483647 ∧ 0 < y ∧ y ≤ 2147483647) : a / b = Int32.ofInt (x / y) := by
  obtain ⟨h1, h2, h3, h4⟩ := h
  have e0 : x / y = x.tdiv y := (Int.tdiv_eq_ediv_of_nonneg h1).symm
  have hm1 : Int32.minValue.toInt = -2147483648 := rfl
  have hm2 : Int32.maxValue.toInt = 2147483647 := rfl
  rw [ha, hb, e0, Int32.ofInt_tdiv (by rw [hm1]; omega) (by rw [hm2]; omega) (by rw [hm1]; omega) (by rw [hm2]; omega)]
theorem ga_rem {a b : Int32} {x y : Int} (ha : a = Int32.ofInt x) (hb : b = Int32.ofInt y) (h : 0 ≤ x ∧ x ≤ 2147483647 ∧ 0 < y ∧ y ≤ 2147483647) : a - a / b * b = Int32.ofInt (x % y) := by
  rw [ga_div ha hb h, ha, hb, ← Int32.ofInt_mul, ← Int32.ofInt_sub]
  congr 1
  have := Int.mul_ediv_add_emod x y
  rw [Int.mul_comm] at this
  omega
theorem gc_nz {b : Int32} {x y : Int} (hb : b = Int32.ofInt y) (h : 0 ≤ x ∧ x ≤ 2147483647 ∧ 0 < y ∧ y ≤ 2147483647) : ¬ b = 0 := by
  obtain ⟨h1, h2, h3, h4⟩ := h
  intro q
  have e := (gc_eq (y := 0) hb rfl ⟨by omega, h4⟩ (by decide)).mp q
  omega
theorem gal_add {a b : Int64} {x y : Int} (ha : a = Int64.ofInt x) (hb : b = Int64.ofInt y) : a + b = Int64.ofInt (x + y) := by rw [ha, hb, Int64.ofInt_add]
theorem gal_sub {a b : Int64} {x y : Int} (ha : a = Int64.ofInt x) (hb : b = Int64.ofInt y) : a - b = Int64.ofInt (x - y) := by rw [ha, hb, Int64.ofInt_sub]
theorem gal_mul {a b : Int64} {x y : Int} (ha : a = Int64.ofInt x) (hb : b = Int64.ofInt y) : a * b = Int64.ofInt (x * y) := by rw [ha, hb, Int64.ofInt_mul]
theorem gal_neg {a : Int64} {x : Int} (ha : a = Int64.ofInt x) : -a = Int64.ofInt (-x) := by rw [ha, Int64.ofInt_neg]
theorem gal_ti {x : Int} (h : (-9223372036854775808 ≤ x ∧ x ≤ 9223372036854775807)) : (Int64.ofInt x).toInt = x := Int64.toInt_ofInt_of_le (by have := h.1; omega) (by have := h.2; omega)
theorem gcl_lt {a b : Int64} {x y : Int} (ha : a = Int64.ofInt x) (hb : b = Int64.ofInt y) (hx : (-9223372036854775808 ≤ x ∧ x ≤ 9223372036854775807)) (hy : (-9223372036854775808 ≤ y ∧ y ≤ 9223372036854775807)) : a < b ↔ x < y := by rw [ha, hb, Int64.lt_iff_toInt_lt, gal_ti hx, gal_ti hy]
theorem gcl_le {a b : Int64} {x y : Int} (ha : a = Int64.ofInt x) (hb : b = Int64.ofInt y) (hx : (-9223372036854775808 ≤ x ∧ x ≤ 9223372036854775807)) (hy : (-9223372036854775808 ≤ y ∧ y ≤ 9223372036854775807)) : a ≤ b ↔ x ≤ y := by rw [ha, hb, Int64.le_iff_toInt_le, gal_ti hx, gal_ti hy]
theorem gcl_eq {a b : Int64} {x y : Int} (ha : a = Int64.ofInt x) (hb : b = Int64.ofInt y) (hx : (-9223372036854775808 ≤ x ∧ x ≤ 9223372036854775807)) (hy : (-9223372036854775808 ≤ y ∧ y ≤ 9223372036854775807)) : a = b ↔ x = y := by rw [ha, hb, ← Int64.toInt_inj, gal_ti hx, gal_ti hy]
theorem gcl_ne {a b : Int64} {x y : Int} (ha : a = Int64.ofInt x) (hb : b = Int64.ofInt y) (hx : (-9223372036854775808 ≤ x ∧ x ≤ 9223372036854775807)) (hy : (-9223372036854775808 ≤ y ∧ y ≤ 9223372036854775807)) : ¬ a = b ↔ ¬ x = y := not_congr (gcl_eq ha hb hx hy)
theorem gal_div {a b : Int64} {x y : Int} (ha : a = Int64.ofInt x) (hb : b = Int64.ofInt y) (h : 0 ≤ x ∧ x ≤ 9223372036854775807 ∧ 0 < y ∧ y ≤ 9223372036854775807) : a / b = Int64.ofInt (x / y) := by
  obtain ⟨h1, h2, h3, h4⟩ := h
  have e0 : x / y = x.tdiv y := (Int.tdiv_eq_ediv_of_nonneg h1).symm
  have hm1 : Int64.minValue.toInt = -9223372036854775808 := rfl
  have hm2 : Int64.maxValue.toInt = 9223372036854775807 := rfl
  rw [ha, hb, e0, Int64.ofInt_tdiv (by rw [hm1]; omega) (by rw [hm2]; omega) (by rw [hm1]; omega) (by rw [hm2]; omega)]
theorem gal_rem {a b : Int64} {x y : Int} (ha : a = Int64.ofInt x) (hb : b = Int64.ofInt y) (h : 0 ≤ x ∧ x ≤ 9223372036854775807 ∧ 0 < y ∧ y ≤ 9223372036854775807) : a - a / b * b = Int64.ofInt (x % y) := by
  rw [gal_div ha hb h, ha, hb, ← Int64.ofInt_mul, ← Int64.ofInt_sub]
  congr 1
  have := Int.mul_ediv_add_emod x y
  rw [Int.mul_comm] at this
  omega
theorem gcl_nz {b : Int64} {x y : Int} (hb : b = Int64.ofInt y) (h : 0 ≤ x ∧ x ≤ 9223372036854775807 ∧ 0 < y ∧ y ≤ 9223372036854775807) : ¬ b = 0 := by
  obtain ⟨h1, h2, h3, h4⟩ := h
  intro q
  have e := (gcl_eq (y := 0) hb rfl ⟨by omega, h4⟩ (by decide)).mp q
  omega
theorem ga_o2 {f : Int32 → Int32 → Int32} {a b : Int32} {x y : Int} (ha : a = Int32.ofInt x) (hb : b = Int32.ofInt y) : f a b = Int32.ofInt (f (Int32.ofInt x) (Int32.ofInt y)).toInt := by subst ha hb; exact (Int32.ofInt_toInt _).symm
theorem gal_o2 {f : Int64 → Int64 → Int64} {a b : Int64} {x y : Int} (ha : a = Int64.ofInt x) (hb : b = Int64.ofInt y) : f a b = Int64.ofInt (f (Int64.ofInt x) (Int64.ofInt y)).toInt := by subst ha hb; exact (Int64.ofInt_toInt _).symm
theorem gal_o3 {f : Int64 → Int32 → Int64} {a : Int64} {b : Int32} {x y : Int} (ha : a = Int64.ofInt x) (hb : b = Int32.ofInt y) : f a b = Int64.ofInt (f (Int64.ofInt x) (Int32.ofInt y)).toInt := by subst ha hb; exact (Int64.ofInt_toInt _).symm
theorem ga_o1 {f : Int32 → Int32} {a : Int32} {x : Int} (ha : a = Int32.ofInt x) : f a = Int32.ofInt (f (Int32.ofInt x)).toInt := by subst ha; exact (Int32.ofInt_toInt _).symm
theorem ga_i2l {a : Int32} {x : Int} (ha : a = Int32.ofInt x) (h : -2147483648 ≤ x ∧ x ≤ 2147483647) : a.toInt64 = Int64.ofInt x := by
  rw [ha]
  exact Int32.toInt64_ofInt h.1 h.2
theorem ga_l2i {a : Int64} {x : Int} (ha : a = Int64.ofInt x) : a.toInt32 = Int32.ofInt x := by rw [ha]; exact Int64.toInt32_ofInt
theorem ga_ite {a b : Int32} {x y : Int} {c : Prop} {c' : Prop} [Decidable c] [Decidable c'] (hc : c ↔ c') (ha : a = Int32.ofInt x) (hb : b = Int32.ofInt y) : (if c then a else b) = Int32.ofInt (if c' then x else y) := by
  by_cases q : c'
  · rw [if_pos q, if_pos (hc.mpr q), ha]
  · rw [if_neg q, if_neg (fun u => q (hc.mp u)), hb]
theorem gc_01 {a : Int32} {x : Int} (ha : a = Int32.ofInt x) (h : x = 0 ∨ x = 1) : a = 0 ∨ a = 1 := by
  rcases h with h | h
  · exact Or.inl (by rw [ha, h]; rfl)
  · exact Or.inr (by rw [ha, h]; rfl)
theorem gal_ite {a b : Int64} {x y : Int} {c : Prop} {c' : Prop} [Decidable c] [Decidable c'] (hc : c ↔ c') (ha : a = Int64.ofInt x) (hb : b = Int64.ofInt y) : (if c then a else b) = Int64.ofInt (if c' then x else y) := by
  by_cases q : c'
  · rw [if_pos q, if_pos (hc.mpr q), ha]
  · rw [if_neg q, if_neg (fun u => q (hc.mp u)), hb]
/-- an array's type and length -/
def gx_a (t k n : Nat) : Bool := Nat.blt k fx_N && Nat.beq (fx_sh k).1 t && Nat.beq (fx_sh k).2 n && Nat.ble n 60000
def gx_p (k : Nat) : Bool := gx_a 0 k (fx_sh k).2
theorem gx_ok {t k n : Nat} {i : Int32} {x : Int} (hi : i = Int32.ofInt x) (hk : gx_a t k n = true) (h0 : 0 ≤ x) (h1 : x < (n : Int)) : fx_ok t k i = true ∧ i.toNatClampNeg = x.toNat := by
  simp only [gx_a, Bool.and_eq_true] at hk
  obtain ⟨⟨⟨k1, k2⟩, k3⟩, k4⟩ := hk
  have k4 := Nat.le_of_ble_eq_true k4
  have k3 := Nat.eq_of_beq_eq_true k3
  have e : i.toNatClampNeg = x.toNat := by
    rw [hi]
    exact Int32.toNatClampNeg_ofInt_of_le (by omega) (by omega)
  refine ⟨?_, e⟩
  unfold fx_ok
  have q1 : (0 : Int32) ≤ i := (gc_le (x := 0) rfl hi (by decide) (by omega)).mpr h0
  rw [k1, k2, e, decide_eq_true q1, k3]
  have q2 : Nat.blt x.toNat n = true := Nat.ble_eq_true_of_le (by omega)
  rw [q2]
  rfl
theorem gl_ld {σ : fx_S} {s : gx_S} {k n : Nat} {i : Int32} {x : Int} (hs : σ = gx s) (hi : i = Int32.ofInt x) (hk : gx_a 0 k n = true) (c : 0 ≤ x ∧ x < (n : Int)) : fx_ld σ k i = some (Int32.ofInt (s.1 k x.toNat)) := by
  obtain ⟨q1, q2⟩ := gx_ok hi hk c.1 c.2
  unfold fx_ld
  rw [if_pos q1, q2, hs]
  rfl
theorem gl_ldb2 {σ : fx_S} {s : gx_S} {k n : Nat} {i : Int32} {x : Int} (hs : σ = gx s) (hi : i = Int32.ofInt x) (hk : gx_a 2 k n = true) (c : 0 ≤ x ∧ x < (n : Int)) : fx_ldb σ k i = some (Int32.ofInt (s.1 k x.toNat)) := by
  obtain ⟨q1, q2⟩ := gx_ok hi hk c.1 c.2
  unfold fx_ldb
  rw [if_pos (Or.inr q1), q2, hs]
  rfl
theorem gl_ldb3 {σ : fx_S} {s : gx_S} {k n : Nat} {i : Int32} {x : Int} (hs : σ = gx s) (hi : i = Int32.ofInt x) (hk : gx_a 3 k n = true) (c : 0 ≤ x ∧ x < (n : Int)) : fx_ldb σ k i = some (Int32.ofInt (s.1 k x.toNat)) := by
  obtain ⟨q1, q2⟩ := gx_ok hi hk c.1 c.2
  unfold fx_ldb
  rw [if_pos (Or.inl q1), q2, hs]
  rfl
theorem gl_ldl {σ : fx_S} {s : gx_S} {k n : Nat} {i : Int32} {x : Int} (hs : σ = gx s) (hi : i = Int32.ofInt x) (hk : gx_a 1 k n = true) (c : 0 ≤ x ∧ x < (n : Int)) : fx_ldl σ k i = some (Int64.ofInt (s.2 k x.toNat)) := by
  obtain ⟨q1, q2⟩ := gx_ok hi hk c.1 c.2
  unfold fx_ldl
  rw [if_pos q1, q2, hs]
  rfl
theorem gl_ldr {t k n : Nat} {i : Int32} {x : Int} (hi : i = Int32.ofInt x) (hk : gx_a t k n = true) (c : 0 ≤ x ∧ x < (n : Int)) : fx_ldr t k i = some (fx_rf k x.toNat) := by
  obtain ⟨q1, q2⟩ := gx_ok hi hk c.1 c.2
  unfold fx_ldr
  rw [if_pos q1, q2]
theorem gl_st {σ : fx_S} {s : gx_S} {k n : Nat} {i a : Int32} {x y : Int} (hs : σ = gx s) (hi : i = Int32.ofInt x) (hv : a = Int32.ofInt y) (hk : gx_a 0 k n = true) (c : 0 ≤ x ∧ x < (n : Int)) : fx_st σ k i a = some (gx (gw1 s k x.toNat y)) := by
  obtain ⟨q1, q2⟩ := gx_ok hi hk c.1 c.2
  unfold fx_st
  rw [if_pos q1, q2, gx_w1 hs hv]
theorem gl_stl {σ : fx_S} {s : gx_S} {k n : Nat} {i : Int32} {a : Int64} {x y : Int} (hs : σ = gx s) (hi : i = Int32.ofInt x) (hv : a = Int64.ofInt y) (hk : gx_a 1 k n = true) (c : 0 ≤ x ∧ x < (n : Int)) : fx_stl σ k i a = some (gx (gw2 s k x.toNat y)) := by
  obtain ⟨q1, q2⟩ := gx_ok hi hk c.1 c.2
  unfold fx_stl
  rw [if_pos q1, q2, gx_w2 hs hv]
/-- what a byte, a boolean keeps of a number -/
def gn3 (y : Int) : Int := (vp_nar .byte (Int32.ofInt y)).toInt
def gn2 (y : Int) : Int := (vp_nar .boolean (Int32.ofInt y)).toInt
theorem gl_stb3 {σ : fx_S} {s : gx_S} {k n : Nat} {i a : Int32} {x y : Int} (hs : σ = gx s) (hi : i = Int32.ofInt x) (hv : a = Int32.ofInt y) (hk : gx_a 3 k n = true) (c : 0 ≤ x ∧ x < (n : Int)) : fx_stb σ k i a = some (gx (gw1 s k x.toNat (gn3 y))) := by
  obtain ⟨q1, q2⟩ := gx_ok hi hk c.1 c.2
  unfold fx_stb
  rw [if_pos q1, q2, gx_w1 hs (show vp_nar .byte a = Int32.ofInt (gn3 y) by rw [hv]; exact (Int32.ofInt_toInt _).symm)]
theorem gl_stb2 {σ : fx_S} {s : gx_S} {k n : Nat} {i a : Int32} {x y : Int} (hs : σ = gx s) (hi : i = Int32.ofInt x) (hv : a = Int32.ofInt y) (hk : gx_a 2 k n = true) (c : 0 ≤ x ∧ x < (n : Int)) : fx_stb σ k i a = some (gx (gw1 s k x.toNat (gn2 y))) := by
  obtain ⟨q1, q2⟩ := gx_ok hi hk c.1 c.2
  have q3 : ¬ fx_ok 3 k i = true := fun u => by
    have u1 := (fx_ok_s u).2.1
    have u2 := (fx_ok_s q1).2.1
    omega
  unfold fx_stb
  rw [if_neg q3, if_pos q1, q2, gx_w1 hs (show vp_nar .boolean a = Int32.ofInt (gn2 y) by rw [hv]; exact (Int32.ofInt_toInt _).symm)]
theorem gl_cpy {σ : fx_S} {s : gx_S} {a b na nb : Nat} {sp dp n : Int32} {x y m : Int} (hs : σ = gx s) (h1 : sp = Int32.ofInt x) (h2 : dp = Int32.ofInt y) (h3 : n = Int32.ofInt m) (ka : gx_a 0 a na = true) (kb : gx_a 0 b nb = true) (c : 0 ≤ x ∧ 0 ≤ y ∧ 0 ≤ m ∧ x + m ≤ (na : Int) ∧ y + m ≤ (nb : Int)) : fx_cpy σ a sp b dp n = some (gx (gcp s a x.toNat b y.toNat m.toNat)) := by
  obtain ⟨c1, c2, c3, c4, c5⟩ := c
  simp only [gx_a, Bool.and_eq_true] at ka kb
  obtain ⟨⟨⟨k1, k2⟩, k3⟩, k4⟩ := ka
  obtain ⟨⟨⟨l1, l2⟩, l3⟩, l4⟩ := kb
  have k4 := Nat.le_of_ble_eq_true k4
  have l4 := Nat.le_of_ble_eq_true l4
  have k3 := Nat.eq_of_beq_eq_true k3
  have l3 := Nat.eq_of_beq_eq_true l3
  have e1 : sp.toNatClampNeg = x.toNat := by rw [h1]; exact Int32.toNatClampNeg_ofInt_of_le (by omega) (by omega)
  have e2 : dp.toNatClampNeg = y.toNat := by rw [h2]; exact Int32.toNatClampNeg_ofInt_of_le (by omega) (by omega)
  have e3 : n.toNatClampNeg = m.toNat := by rw [h3]; exact Int32.toNatClampNeg_ofInt_of_le (by omega) (by omega)
  unfold fx_cpy
  rw [if_pos ⟨k1, l1, Nat.eq_of_beq_eq_true k2, Nat.eq_of_beq_eq_true l2, (gc_le (x := 0) rfl h1 (by decide) (by omega)).mpr c1, (gc_le (x := 0) rfl h2 (by decide) (by omega)).mpr c2, (gc_le (x := 0) rfl h3 (by decide) (by omega)).mpr c3, by rw [e1, e3, k3]; omega, by rw [e2, e3, l3]; omega⟩, e1, e2, e3, hs]
  congr 1
  refine Prod.ext (funext fun k => funext fun j => ?_) rfl
  show (if k = b ∧ y.toNat ≤ j ∧ j < y.toNat + m.toNat then Int32.ofInt (s.1 a (x.toNat + (j - y.toNat))) else Int32.ofInt (s.1 k j)) = Int32.ofInt (if k = b ∧ y.toNat ≤ j ∧ j < y.toNat + m.toNat then s.1 a (x.toNat + (j - y.toNat)) else s.1 k j)
  split <;> rfl
theorem ga_lt_ite {a b : Int32} {x y : Int} (ha : a = Int32.ofInt x) (hb : b = Int32.ofInt y) (hx : -2147483648 ≤ x ∧ x ≤ 2147483647) (hy : -2147483648 ≤ y ∧ y ≤ 2147483647) : (if b < a then b else a) = Int32.ofInt (if y < x then y else x) := ga_ite (gc_lt hb ha hy hx) hb ha
theorem ga_gt_ite {a b : Int32} {x y : Int} (ha : a = Int32.ofInt x) (hb : b = Int32.ofInt y) (hx : -2147483648 ≤ x ∧ x ≤ 2147483647) (hy : -2147483648 ≤ y ∧ y ≤ 2147483647) : (if a < b then b else a) = Int32.ofInt (if x < y then y else x) := ga_ite (gc_lt ha hb hx hy) hb ha
theorem gs_r (x : Int32) : -2147483648 ≤ x.toInt ∧ x.toInt ≤ 2147483647 := by
  have a := Int32.le_toInt x
  have b := Int32.toInt_lt x
  exact ⟨by simpa using a, by omega⟩
theorem gc_L (L : Nat) : Int32.ofNat L = Int32.ofInt (L : Int) := (Int32.ofInt_eq_ofNat).symm
theorem gl_lds {L : Nat} {xs : Nat → Int32} (hL : L ≤ 100000) {i : Int32} {x : Int} (hi : i = Int32.ofInt x) (c : 0 ≤ x ∧ x < (L : Int)) : fx_lds L xs i = some (Int32.ofInt (xs x.toNat).toInt) := by
  obtain ⟨c1, c2⟩ := c
  have e : i.toNatClampNeg = x.toNat := by
    rw [hi]
    exact Int32.toNatClampNeg_ofInt_of_le (by omega) (by omega)
  have q1 : (0 : Int32) ≤ i := (gc_le (x := 0) rfl hi (by decide) (by omega)).mpr c1
  unfold fx_lds
  rw [if_pos ?_, e, Int32.ofInt_toInt]
  unfold iv_in
  rw [decide_eq_true q1, e, decide_eq_true (show x.toNat < L by omega)]
  rfl
