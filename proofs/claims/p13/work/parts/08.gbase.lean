section
/-! STATES OVER WHOLE NUMBERS: gx makes the machine's out of them. What the plain functions do over Int32, Int64 they do over Int, as long as nothing that is asked of a number lies beyond its range. -/
abbrev gx_S : Type := (Nat → Nat → Int) × (Nat → Nat → Int)
def gx (s : gx_S) : fx_S := (fun k i => Int32.ofInt (s.1 k i), fun k i => Int64.ofInt (s.2 k i))
def gw1 (s : gx_S) (k j : Nat) (x : Int) : gx_S := (fun a b => if a = k ∧ b = j then x else s.1 a b, s.2)
def gw2 (s : gx_S) (k j : Nat) (x : Int) : gx_S := (s.1, fun a b => if a = k ∧ b = j then x else s.2 a b)
def gcp (s : gx_S) (a sp b dp n : Nat) : gx_S := (fun k j => if k = b ∧ dp ≤ j ∧ j < dp + n then s.1 a (sp + (j - dp)) else s.1 k j, s.2)
def gb (b : Bool) : Int := if b = true then 1 else 0
theorem gb_r (b : Bool) : -2147483648 ≤ gb b ∧ gb b ≤ 2147483647 := by cases b <;> decide
theorem gx_w1 {σ : fx_S} {s : gx_S} {k j : Nat} {a : Int32} {x : Int} (hs : σ = gx s) (hx : a = Int32.ofInt x) : fx_w1 σ k j a = gx (gw1 s k j x) := by
  subst hs hx
  refine Prod.ext (funext fun a => funext fun b => ?_) rfl
  show (if a = k ∧ b = j then Int32.ofInt x else Int32.ofInt (s.1 a b)) = Int32.ofInt (if a = k ∧ b = j then x else s.1 a b)
  split <;> rfl
theorem gx_w2 {σ : fx_S} {s : gx_S} {k j : Nat} {a : Int64} {x : Int} (hs : σ = gx s) (hx : a = Int64.ofInt x) : fx_w2 σ k j a = gx (gw2 s k j x) := by
  subst hs hx
  refine Prod.ext rfl (funext fun a => funext fun b => ?_)
  show (if a = k ∧ b = j then Int64.ofInt x else Int64.ofInt (s.2 a b)) = Int64.ofInt (if a = k ∧ b = j then x else s.2 a b)
  split <;> rfl
theorem gr (x : Int) : Int32.ofInt x = Int32.ofInt x := rfl
theorem gr2 (x : Int) : Int64.ofInt x = Int64.ofInt x := rfl
theorem gf1 {σ : fx_S} {s : gx_S} (hs : σ = gx s) (k j : Nat) : σ.1 k j = Int32.ofInt (s.1 k j) := by subst hs; rfl
theorem gf2 {σ : fx_S} {s : gx_S} (hs : σ = gx s) (k j : Nat) : σ.2 k j = Int64.ofInt (s.2 k j) := by subst hs; rfl
theorem gb_b (b : Bool) : fx_b b = Int32.ofInt (gb b) := by cases b <;> rfl
theorem gb_bind {α β : Type} {o : Option α} {f : α → Option β} {x : α} {r : Option β} (e : o = some x) (h : f x = r) : o.bind f = r := by subst e; exact h
theorem gb_t {α : Type} {c : Prop} [Decidable c] {a b r : α} (hc : c) (h : a = r) : (if c then a else b) = r := (if_pos hc).trans h
theorem gb_f {α : Type} {c : Prop} [Decidable c] {a b r : α} (hc : ¬ c) (h : b = r) : (if c then a else b) = r := (if_neg hc).trans h
theorem gret {a : Int32} {x : Int} {σ : fx_S} {s : gx_S} (h : a = Int32.ofInt x) (hs : σ = gx s) : some (a, σ) = some (Int32.ofInt x, gx s) := by subst h hs; rfl
theorem gretl {a : Int64} {x : Int} {σ : fx_S} {s : gx_S} (h : a = Int64.ofInt x) (hs : σ = gx s) : some (a, σ) = some (Int64.ofInt x, gx s) := by subst h hs; rfl
theorem gretb {b : Bool} {σ : fx_S} {s : gx_S} (hs : σ = gx s) : some (b, σ) = some (b, gx s) := by subst hs; rfl
theorem gretv {σ : fx_S} {s : gx_S} (hs : σ = gx s) : some σ = some (gx s) := by subst hs; rfl
theorem gc_len (k : Nat) : fx_len k = Int32.ofInt ((fx_sh k).2 : Int) := by exact (Int32.ofInt_eq_ofNat).symm
theorem ga_add {a b : Int32} {x y : Int} (ha : a = Int32.ofInt x) (hb : b = Int32.ofInt y) : a + b = Int32.ofInt (x + y) := by rw [ha, hb, Int32.ofInt_add]
theorem ga_sub {a b : Int32} {x y : Int} (ha : a = Int32.ofInt x) (hb : b = Int32.ofInt y) : a - b = Int32.ofInt (x - y) := by rw [ha, hb, Int32.ofInt_sub]
theorem ga_mul {a b : Int32} {x y : Int} (ha : a = Int32.ofInt x) (hb : b = Int32.ofInt y) : a * b = Int32.ofInt (x * y) := by rw [ha, hb, Int32.ofInt_mul]
theorem ga_neg {a : Int32} {x : Int} (ha : a = Int32.ofInt x) : -a = Int32.ofInt (-x) := by rw [ha, Int32.ofInt_neg]
theorem ga_ti {x : Int} (h : (-2147483648 ≤ x ∧ x ≤ 2147483647)) : (Int32.ofInt x).toInt = x := Int32.toInt_ofInt_of_le (by have := h.1; omega) (by have := h.2; omega)
theorem gc_lt {a b : Int32} {x y : Int} (ha : a = Int32.ofInt x) (hb : b = Int32.ofInt y) (hx : (-2147483648 ≤ x ∧ x ≤ 2147483647)) (hy : (-2147483648 ≤ y ∧ y ≤ 2147483647)) : a < b ↔ x < y := by rw [ha, hb, Int32.lt_iff_toInt_lt, ga_ti hx, ga_ti hy]
theorem gc_le {a b : Int32} {x y : Int} (ha : a = Int32.ofInt x) (hb : b = Int32.ofInt y) (hx : (-2147483648 ≤ x ∧ x ≤ 2147483647)) (hy : (-2147483648 ≤ y ∧ y ≤ 2147483647)) : a ≤ b ↔ x ≤ y := by rw [ha, hb, Int32.le_iff_toInt_le, ga_ti hx, ga_ti hy]
theorem gc_eq {a b : Int32} {x y : Int} (ha : a = Int32.ofInt x) (hb : b = Int32.ofInt y) (hx : (-2147483648 ≤ x ∧ x ≤ 2147483647)) (hy : (-2147483648 ≤ y ∧ y ≤ 2147483647)) : a = b ↔ x = y := by rw [ha, hb, ← Int32.toInt_inj, ga_ti hx, ga_ti hy]
theorem gc_ne {a b : Int32} {x y : Int} (ha : a = Int32.ofInt x) (hb : b = Int32.ofInt y) (hx : (-2147483648 ≤ x ∧ x ≤ 2147483647)) (hy : (-2147483648 ≤ y ∧ y ≤ 2147483647)) : ¬ a = b ↔ ¬ x = y := not_congr (gc_eq ha hb hx hy)
theorem ga_div {a b : Int32} {x y : Int} (ha : a = Int32.ofInt x) (hb : b = Int32.ofInt y) (h : 0 ≤ x ∧ x ≤ 2147483647 ∧ 0 < y ∧ y ≤ 2147483647) : a / b = Int32.ofInt (x / y) := by
  obtain ⟨h1, h2, h3, h4⟩ := h
  have e0 : x / y = x.tdiv y := (Int.tdiv_eq_ediv_of_nonneg h1).symm
  have hm1 : Int32.minValue.toInt = -2147483648 := rfl
  have hm2 : Int32.maxValue.toInt = 2147483647 := rfl
  rw [ha, hb, e0, Int32.ofInt_tdiv (by rw [hm1]; omega) (by rw [hm2]; omega) (by rw [hm1]; omega) (by rw [hm2]; omega)]
theorem ga_rem {a b : Int32} {x y : Int} (ha : a = Int32.ofInt x) (hb : b = Int32.ofInt y) (h : 0 ≤ x ∧ x ≤ 2147483647 ∧ 0 < y ∧ y ≤ 2147483647) : a - a / b * b = Int32.ofInt (x % y) := by
  rw [ga_div ha hb h, ha, hb, ← Int32.ofInt_mul, ← Int32.ofInt_sub]
  congr 1
  have := Int.mul_ediv_add_emod x y
  rw [Int.mul_comm] at this
  omega
theorem gc_nz {b : Int32} {x y : Int} (hb : b = Int32.ofInt y) (h : 0 ≤ x ∧ x ≤ 2147483647 ∧ 0 < y ∧ y ≤ 2147483647) : ¬ b = 0 := by
  obtain ⟨h1, h2, h3, h4⟩ := h
  intro q
  have e := (gc_eq (y := 0) hb rfl ⟨by omega, h4⟩ (by decide)).mp q
  omega
theorem gal_add {a b : Int64} {x y : Int} (ha : a = Int64.ofInt x) (hb : b = Int64.ofInt y) : a + b = Int64.ofInt (x + y) := by rw [ha, hb, Int64.ofInt_add]
theorem gal_sub {a b : Int64} {x y : Int} (ha : a = Int64.ofInt x) (hb : b = Int64.ofInt y) : a - b = Int64.ofInt (x - y) := by rw [ha, hb, Int64.ofInt_sub]
theorem gal_mul {a b : Int64} {x y : Int} (ha : a = Int64.ofInt x) (hb : b = Int64.ofInt y) : a * b = Int64.ofInt (x * y) := by rw [ha, hb, Int64.ofInt_mul]
theorem gal_neg {a : Int64} {x : Int} (ha : a = Int64.ofInt x) : -a = Int64.ofInt (-x) := by rw [ha, Int64.ofInt_neg]
theorem gal_ti {x : Int} (h : (-9223372036854775808 ≤ x ∧ x ≤ 9223372036854775807)) : (Int64.ofInt x).toInt = x := Int64.toInt_ofInt_of_le (by have := h.1; omega) (by have := h.2; omega)
theorem gcl_lt {a b : Int64} {x y : Int} (ha : a = Int64.ofInt x) (hb : b = Int64.ofInt y) (hx : (-9223372036854775808 ≤ x ∧ x ≤ 9223372036854775807)) (hy : (-9223372036854775808 ≤ y ∧ y ≤ 9223372036854775807)) : a < b ↔ x < y := by rw [ha, hb, Int64.lt_iff_toInt_lt, gal_ti hx, gal_ti hy]
theorem gcl_le {a b : Int64} {x y : Int} (ha : a = Int64.ofInt x) (hb : b = Int64.ofInt y) (hx : (-9223372036854775808 ≤ x ∧ x ≤ 9223372036854775807)) (hy : (-9223372036854775808 ≤ y ∧ y ≤ 9223372036854775807)) : a ≤ b ↔ x ≤ y := by rw [ha, hb, Int64.le_iff_toInt_le, gal_ti hx, gal_ti hy]
theorem gcl_eq {a b : Int64} {x y : Int} (ha : a = Int64.ofInt x) (hb : b = Int64.ofInt y) (hx : (-9223372036854775808 ≤ x ∧ x ≤ 9223372036854775807)) (hy : (-9223372036854775808 ≤ y ∧ y ≤ 9223372036854775807)) : a = b ↔ x = y := by rw [ha, hb, ← Int64.toInt_inj, gal_ti hx, gal_ti hy]
theorem gcl_ne {a b : Int64} {x y : Int} (ha : a = Int64.ofInt x) (hb : b = Int64.ofInt y) (hx : (-9223372036854775808 ≤ x ∧ x ≤ 9223372036854775807)) (hy : (-9223372036854775808 ≤ y ∧ y ≤ 9223372036854775807)) : ¬ a = b ↔ ¬ x = y := not_congr (gcl_eq ha hb hx hy)
theorem gal_div {a b : Int64} {x y : Int} (ha : a = Int64.ofInt x) (hb : b = Int64.ofInt y) (h : 0 ≤ x ∧ x ≤ 9223372036854775807 ∧ 0 < y ∧ y ≤ 9223372036854775807) : a / b = Int64.ofInt (x / y) := by
  obtain ⟨h1, h2, h3, h4⟩ := h
  have e0 : x / y = x.tdiv y := (Int.tdiv_eq_ediv_of_nonneg h1).symm
  have hm1 : Int64.minValue.toInt = -9223372036854775808 := rfl
  have hm2 : Int64.maxValue.toInt = 9223372036854775807 := rfl
  rw [ha, hb, e0, Int64.ofInt_tdiv (by rw [hm1]; omega) (by rw [hm2]; omega) (by rw [hm1]; omega) (by rw [hm2]; omega)]
theorem gal_rem {a b : Int64} {x y : Int} (ha : a = Int64.ofInt x) (hb : b = Int64.ofInt y) (h : 0 ≤ x ∧ x ≤ 9223372036854775807 ∧ 0 < y ∧ y ≤ 9223372036854775807) : a - a / b * b = Int64.ofInt (x % y) := by
  rw [gal_div ha hb h, ha, hb, ← Int64.ofInt_mul, ← Int64.ofInt_sub]
  congr 1
  have := Int.mul_ediv_add_emod x y
  rw [Int.mul_comm] at this
  omega
theorem gcl_nz {b : Int64} {x y : Int} (hb : b = Int64.ofInt y) (h : 0 ≤ x ∧ x ≤ 9223372036854775807 ∧ 0 < y ∧ y ≤ 9223372036854775807) : ¬ b = 0 := by
  obtain ⟨h1, h2, h3, h4⟩ := h
  intro q
  have e := (gcl_eq (y := 0) hb rfl ⟨by omega, h4⟩ (by decide)).mp q
  omega
theorem ga_o2 {f : Int32 → Int32 → Int32} {a b : Int32} {x y : Int} (ha : a = Int32.ofInt x) (hb : b = Int32.ofInt y) : f a b = Int32.ofInt (f (Int32.ofInt x) (Int32.ofInt y)).toInt := by subst ha hb; exact (Int32.ofInt_toInt _).symm
theorem gal_o2 {f : Int64 → Int64 → Int64} {a b : Int64} {x y : Int} (ha : a = Int64.ofInt x) (hb : b = Int64.ofInt y) : f a b = Int64.ofInt (f (Int64.ofInt x) (Int64.ofInt y)).toInt := by subst ha hb; exact (Int64.ofInt_toInt _).symm
theorem gal_o3 {f : Int64 → Int32 → Int64} {a : Int64} {b : Int32} {x y : Int} (ha : a = Int64.ofInt x) (hb : b = Int32.ofInt y) : f a b = Int64.ofInt (f (Int64.ofInt x) (Int32.ofInt y)).toInt := by subst ha hb; exact (Int64.ofInt_toInt _).symm
theorem ga_o1 {f : Int32 → Int32} {a : Int32} {x : Int} (ha : a = Int32.ofInt x) : f a = Int32.ofInt (f (Int32.ofInt x)).toInt := by subst ha; exact (Int32.ofInt_toInt _).symm
theorem ga_i2l {a : Int32} {x : Int} (ha : a = Int32.ofInt x) (h : -2147483648 ≤ x ∧ x ≤ 2147483647) : a.toInt64 = Int64.ofInt x := by
  rw [ha]
  exact Int32.toInt64_ofInt h.1 h.2
theorem ga_l2i {a : Int64} {x : Int} (ha : a = Int64.ofInt x) : a.toInt32 = Int32.ofInt x := by rw [ha]; exact Int64.toInt32_ofInt
theorem ga_ite {a b : Int32} {x y : Int} {c : Prop} {c' : Prop} [Decidable c] [Decidable c'] (hc : c ↔ c') (ha : a = Int32.ofInt x) (hb : b = Int32.ofInt y) : (if c then a else b) = Int32.ofInt (if c' then x else y) := by
  by_cases q : c'
  · rw [if_pos q, if_pos (hc.mpr q), ha]
  · rw [if_neg q, if_neg (fun u => q (hc.mp u)), hb]
theorem gc_01 {a : Int32} {x : Int} (ha : a = Int32.ofInt x) (h : x = 0 ∨ x = 1) : a = 0 ∨ a = 1 := by
  rcases h with h | h
  · exact Or.inl (by rw [ha, h]; rfl)
  · exact Or.inr (by rw [ha, h]; rfl)
theorem gal_ite {a b : Int64} {x y : Int} {c : Prop} {c' : Prop} [Decidable c] [Decidable c'] (hc : c ↔ c') (ha : a = Int64.ofInt x) (hb : b = Int64.ofInt y) : (if c then a else b) = Int64.ofInt (if c' then x else y) := by
  by_cases q : c'
  · rw [if_pos q, if_pos (hc.mpr q), ha]
  · rw [if_neg q, if_neg (fun u => q (hc.mp u)), hb]
/-- an array's type and length -/
def gx_a (t k n : Nat) : Bool := Nat.blt k fx_N && Nat.beq (fx_sh k).1 t && Nat.beq (fx_sh k).2 n && Nat.ble n 60000
def gx_p (k : Nat) : Bool := gx_a 0 k (fx_sh k).2
theorem gx_ok {t k n : Nat} {i : Int32} {x : Int} (hi : i = Int32.ofInt x) (hk : gx_a t k n = true) (h0 : 0 ≤ x) (h1 : x < (n : Int)) : fx_ok t k i = true ∧ i.toNatClampNeg = x.toNat := by
  simp only [gx_a, Bool.and_eq_true] at hk
  obtain ⟨⟨⟨k1, k2⟩, k3⟩, k4⟩ := hk
  have k4 := Nat.le_of_ble_eq_true k4
  have k3 := Nat.eq_of_beq_eq_true k3
  have e : i.toNatClampNeg = x.toNat := by
    rw [hi]
    exact Int32.toNatClampNeg_ofInt_of_le (by omega) (by omega)
  refine ⟨?_, e⟩
  unfold fx_ok
  have q1 : (0 : Int32) ≤ i := (gc_le (x := 0) rfl hi (by decide) (by omega)).mpr h0
  rw [k1, k2, e, decide_eq_true q1, k3]
  have q2 : Nat.blt x.toNat n = true := Nat.ble_eq_true_of_le (by omega)
  rw [q2]
  rfl
theorem gl_ld {σ : fx_S} {s : gx_S} {k n : Nat} {i : Int32} {x : Int} (hs : σ = gx s) (hi : i = Int32.ofInt x) (hk : gx_a 0 k n = true) (c : 0 ≤ x ∧ x < (n : Int)) : fx_ld σ k i = some (Int32.ofInt (s.1 k x.toNat)) := by
  obtain ⟨q1, q2⟩ := gx_ok hi hk c.1 c.2
  unfold fx_ld
  rw [if_pos q1, q2, hs]
  rfl
theorem gl_ldb2 {σ : fx_S} {s : gx_S} {k n : Nat} {i : Int32} {x : Int} (hs : σ = gx s) (hi : i = Int32.ofInt x) (hk : gx_a 2 k n = true) (c : 0 ≤ x ∧ x < (n : Int)) : fx_ldb σ k i = some (Int32.ofInt (s.1 k x.toNat)) := by
  obtain ⟨q1, q2⟩ := gx_ok hi hk c.1 c.2
  unfold fx_ldb
  rw [if_pos (Or.inr q1), q2, hs]
  rfl
theorem gl_ldb3 {σ : fx_S} {s : gx_S} {k n : Nat} {i : Int32} {x : Int} (hs : σ = gx s) (hi : i = Int32.ofInt x) (hk : gx_a 3 k n = true) (c : 0 ≤ x ∧ x < (n : Int)) : fx_ldb σ k i = some (Int32.ofInt (s.1 k x.toNat)) := by
  obtain ⟨q1, q2⟩ := gx_ok hi hk c.1 c.2
  unfold fx_ldb
  rw [if_pos (Or.inl q1), q2, hs]
  rfl
theorem gl_ldl {σ : fx_S} {s : gx_S} {k n : Nat} {i : Int32} {x : Int} (hs : σ = gx s) (hi : i = Int32.ofInt x) (hk : gx_a 1 k n = true) (c : 0 ≤ x ∧ x < (n : Int)) : fx_ldl σ k i = some (Int64.ofInt (s.2 k x.toNat)) := by
  obtain ⟨q1, q2⟩ := gx_ok hi hk c.1 c.2
  unfold fx_ldl
  rw [if_pos q1, q2, hs]
  rfl
theorem gl_ldr {t k n : Nat} {i : Int32} {x : Int} (hi : i = Int32.ofInt x) (hk : gx_a t k n = true) (c : 0 ≤ x ∧ x < (n : Int)) : fx_ldr t k i = some (fx_rf k x.toNat) := by
  obtain ⟨q1, q2⟩ := gx_ok hi hk c.1 c.2
  unfold fx_ldr
  rw [if_pos q1, q2]
theorem gl_st {σ : fx_S} {s : gx_S} {k n : Nat} {i a : Int32} {x y : Int} (hs : σ = gx s) (hi : i = Int32.ofInt x) (hv : a = Int32.ofInt y) (hk : gx_a 0 k n = true) (c : 0 ≤ x ∧ x < (n : Int)) : fx_st σ k i a = some (gx (gw1 s k x.toNat y)) := by
  obtain ⟨q1, q2⟩ := gx_ok hi hk c.1 c.2
  unfold fx_st
  rw [if_pos q1, q2, gx_w1 hs hv]
theorem gl_stl {σ : fx_S} {s : gx_S} {k n : Nat} {i : Int32} {a : Int64} {x y : Int} (hs : σ = gx s) (hi : i = Int32.ofInt x) (hv : a = Int64.ofInt y) (hk : gx_a 1 k n = true) (c : 0 ≤ x ∧ x < (n : Int)) : fx_stl σ k i a = some (gx (gw2 s k x.toNat y)) := by
  obtain ⟨q1, q2⟩ := gx_ok hi hk c.1 c.2
  unfold fx_stl
  rw [if_pos q1, q2, gx_w2 hs hv]
/-- what a byte, a boolean keeps of a number -/
def gn3 (y : Int) : Int := (vp_nar .byte (Int32.ofInt y)).toInt
def gn2 (y : Int) : Int := (vp_nar .boolean (Int32.ofInt y)).toInt
theorem gl_stb3 {σ : fx_S} {s : gx_S} {k n : Nat} {i a : Int32} {x y : Int} (hs : σ = gx s) (hi : i = Int32.ofInt x) (hv : a = Int32.ofInt y) (hk : gx_a 3 k n = true) (c : 0 ≤ x ∧ x < (n : Int)) : fx_stb σ k i a = some (gx (gw1 s k x.toNat (gn3 y))) := by
  obtain ⟨q1, q2⟩ := gx_ok hi hk c.1 c.2
  unfold fx_stb
  rw [if_pos q1, q2, gx_w1 hs (show vp_nar .byte a = Int32.ofInt (gn3 y) by rw [hv]; exact (Int32.ofInt_toInt _).symm)]
theorem gl_stb2 {σ : fx_S} {s : gx_S} {k n : Nat} {i a : Int32} {x y : Int} (hs : σ = gx s) (hi : i = Int32.ofInt x) (hv : a = Int32.ofInt y) (hk : gx_a 2 k n = true) (c : 0 ≤ x ∧ x < (n : Int)) : fx_stb σ k i a = some (gx (gw1 s k x.toNat (gn2 y))) := by
  obtain ⟨q1, q2⟩ := gx_ok hi hk c.1 c.2
  have q3 : ¬ fx_ok 3 k i = true := fun u => by
    have u1 := (fx_ok_s u).2.1
    have u2 := (fx_ok_s q1).2.1
    omega
  unfold fx_stb
  rw [if_neg q3, if_pos q1, q2, gx_w1 hs (show vp_nar .boolean a = Int32.ofInt (gn2 y) by rw [hv]; exact (Int32.ofInt_toInt _).symm)]
theorem gl_cpy {σ : fx_S} {s : gx_S} {a b na nb : Nat} {sp dp n : Int32} {x y m : Int} (hs : σ = gx s) (h1 : sp = Int32.ofInt x) (h2 : dp = Int32.ofInt y) (h3 : n = Int32.ofInt m) (ka : gx_a 0 a na = true) (kb : gx_a 0 b nb = true) (c : 0 ≤ x ∧ 0 ≤ y ∧ 0 ≤ m ∧ x + m ≤ (na : Int) ∧ y + m ≤ (nb : Int)) : fx_cpy σ a sp b dp n = some (gx (gcp s a x.toNat b y.toNat m.toNat)) := by
  obtain ⟨c1, c2, c3, c4, c5⟩ := c
  simp only [gx_a, Bool.and_eq_true] at ka kb
  obtain ⟨⟨⟨k1, k2⟩, k3⟩, k4⟩ := ka
  obtain ⟨⟨⟨l1, l2⟩, l3⟩, l4⟩ := kb
  have k4 := Nat.le_of_ble_eq_true k4
  have l4 := Nat.le_of_ble_eq_true l4
  have k3 := Nat.eq_of_beq_eq_true k3
  have l3 := Nat.eq_of_beq_eq_true l3
  have e1 : sp.toNatClampNeg = x.toNat := by rw [h1]; exact Int32.toNatClampNeg_ofInt_of_le (by omega) (by omega)
  have e2 : dp.toNatClampNeg = y.toNat := by rw [h2]; exact Int32.toNatClampNeg_ofInt_of_le (by omega) (by omega)
  have e3 : n.toNatClampNeg = m.toNat := by rw [h3]; exact Int32.toNatClampNeg_ofInt_of_le (by omega) (by omega)
  unfold fx_cpy
  rw [if_pos ⟨k1, l1, Nat.eq_of_beq_eq_true k2, Nat.eq_of_beq_eq_true l2, (gc_le (x := 0) rfl h1 (by decide) (by omega)).mpr c1, (gc_le (x := 0) rfl h2 (by decide) (by omega)).mpr c2, (gc_le (x := 0) rfl h3 (by decide) (by omega)).mpr c3, by rw [e1, e3, k3]; omega, by rw [e2, e3, l3]; omega⟩, e1, e2, e3, hs]
  congr 1
  refine Prod.ext (funext fun k => funext fun j => ?_) rfl
  show (if k = b ∧ y.toNat ≤ j ∧ j < y.toNat + m.toNat then Int32.ofInt (s.1 a (x.toNat + (j - y.toNat))) else Int32.ofInt (s.1 k j)) = Int32.ofInt (if k = b ∧ y.toNat ≤ j ∧ j < y.toNat + m.toNat then s.1 a (x.toNat + (j - y.toNat)) else s.1 k j)
  split <;> rfl
theorem ga_lt_ite {a b : Int32} {x y : Int} (ha : a = Int32.ofInt x) (hb : b = Int32.ofInt y) (hx : -2147483648 ≤ x ∧ x ≤ 2147483647) (hy : -2147483648 ≤ y ∧ y ≤ 2147483647) : (if b < a then b else a) = Int32.ofInt (if y < x then y else x) := ga_ite (gc_lt hb ha hy hx) hb ha
theorem ga_gt_ite {a b : Int32} {x y : Int} (ha : a = Int32.ofInt x) (hb : b = Int32.ofInt y) (hx : -2147483648 ≤ x ∧ x ≤ 2147483647) (hy : -2147483648 ≤ y ∧ y ≤ 2147483647) : (if a < b then b else a) = Int32.ofInt (if x < y then y else x) := ga_ite (gc_lt ha hb hx hy) hb ha
theorem gs_r (x : Int32) : -2147483648 ≤ x.toInt ∧ x.toInt ≤ 2147483647 := by
  have a := Int32.le_toInt x
  have b := Int32.toInt_lt x
  exact ⟨by simpa using a, by omega⟩
theorem gc_L (L : Nat) : Int32.ofNat L = Int32.ofInt (L : Int) := (Int32.ofInt_eq_ofNat).symm
theorem gl_lds {L : Nat} {xs : Nat → Int32} (hL : L ≤ 100000) {i : Int32} {x : Int} (hi : i = Int32.ofInt x) (c : 0 ≤ x ∧ x < (L : Int)) : fx_lds L xs i = some (Int32.ofInt (xs x.toNat).toInt) := by
  obtain ⟨c1, c2⟩ := c
  have e : i.toNatClampNeg = x.toNat := by
    rw [hi]
    exact Int32.toNatClampNeg_ofInt_of_le (by omega) (by omega)
  have q1 : (0 : Int32) ≤ i := (gc_le (x := 0) rfl hi (by decide) (by omega)).mpr c1
  unfold fx_lds
  rw [if_pos ?_, e, Int32.ofInt_toInt]
  unfold iv_in
  rw [decide_eq_true q1, e, decide_eq_true (show x.toNat < L by omega)]
  rfl
end
section
/-! DOUBLES AND FLOATS are the same in both -/
theorem gd2 {f : UInt64 → UInt64 → UInt64} {a b x y : UInt64} (ha : a = x) (hb : b = y) : f a b = f x y := by subst ha hb; rfl
theorem gd1 {f : UInt64 → UInt64} {a x : UInt64} (ha : a = x) : f a = f x := by subst ha; rfl
theorem gdc {a b x y : UInt64} {c : CmpOp} (ha : a = x) (hb : b = y) : Op.cmpValue (FP.dcmp a b) c = Int32.ofInt (Op.cmpValue (FP.dcmp x y) c).toInt := by subst ha hb; exact (Int32.ofInt_toInt _).symm
theorem gdl {f : UInt64 → Int64} {a x : UInt64} (ha : a = x) : f a = Int64.ofInt (f x).toInt := by subst ha; exact (Int64.ofInt_toInt _).symm
theorem gdf {f : UInt32 → Int32} {a x : UInt32} (ha : a = x) : f a = Int32.ofInt (f x).toInt := by subst ha; exact (Int32.ofInt_toInt _).symm
theorem gdn {a x : UInt64} (ha : a = x) (h : id_n6 x = true) : id_n6 a = true := by subst ha; exact h
theorem gdn3 {a x : UInt32} (ha : a = x) (h : id_n3 x = true) : id_n3 a = true := by subst ha; exact h
theorem gs_r2 (x : Int64) : -9223372036854775808 ≤ x.toInt ∧ x.toInt ≤ 9223372036854775807 := by
  have h1 := Int64.le_toInt x
  have h2 := Int64.toInt_lt x
  exact ⟨by omega, by omega⟩
end
section
/-! FACTS of arrays and numbers -/
theorem kg_1023 : (1023 : Int32) = Int32.ofInt (1023) := by decide +kernel
theorem kg_52 : (52 : Int32) = Int32.ofInt (52) := by decide +kernel
theorem kg_127 : (127 : Int32) = Int32.ofInt (127) := by decide +kernel
theorem kg_23 : (23 : Int32) = Int32.ofInt (23) := by decide +kernel
theorem kg_0 : (0 : Int32) = Int32.ofInt (0) := by decide +kernel
theorem kg_1 : (1 : Int32) = Int32.ofInt (1) := by decide +kernel
theorem kg_m1 : (-1 : Int32) = Int32.ofInt (-1) := by decide +kernel
theorem kgl_1 : (1 : Int64) = Int64.ofInt (1) := by decide +kernel
theorem kg_63 : (63 : Int32) = Int32.ofInt (63) := by decide +kernel
theorem kg_97 : (97 : Int32) = Int32.ofInt (97) := by decide +kernel
theorem kg_104 : (104 : Int32) = Int32.ofInt (104) := by decide +kernel
theorem kg_8 : (8 : Int32) = Int32.ofInt (8) := by decide +kernel
theorem kg_48 : (48 : Int32) = Int32.ofInt (48) := by decide +kernel
theorem kg_57 : (57 : Int32) = Int32.ofInt (57) := by decide +kernel
theorem ga_66 : gx_a 0 66 4 = true := by decide +kernel
theorem ga_68 : gx_a 0 68 8 = true := by decide +kernel
theorem kg_4 : (4 : Int32) = Int32.ofInt (4) := by decide +kernel
theorem ga_65 : gx_a 0 65 32 = true := by decide +kernel
theorem kgl_0 : (0 : Int64) = Int64.ofInt (0) := by decide +kernel
theorem ga_64 : gx_a 0 64 8 = true := by decide +kernel
theorem ga_67 : gx_a 0 67 4 = true := by decide +kernel
theorem ga_63 : gx_a 0 63 4 = true := by decide +kernel
theorem kg_3 : (3 : Int32) = Int32.ofInt (3) := by decide +kernel
theorem kg_9 : (9 : Int32) = Int32.ofInt (9) := by decide +kernel
theorem ga_17 : gx_a 5 17 8 = true := by decide +kernel
theorem kg_12 : (12 : Int32) = Int32.ofInt (12) := by decide +kernel
theorem kg_2 : (2 : Int32) = Int32.ofInt (2) := by decide +kernel
theorem kg_46 : (46 : Int32) = Int32.ofInt (46) := by decide +kernel
theorem kg_51 : (51 : Int32) = Int32.ofInt (51) := by decide +kernel
theorem kg_47 : (47 : Int32) = Int32.ofInt (47) := by decide +kernel
theorem kg_96 : (96 : Int32) = Int32.ofInt (96) := by decide +kernel
theorem ga_59 : gx_a 0 59 96 = true := by decide +kernel
theorem kg_17 : (17 : Int32) = Int32.ofInt (17) := by decide +kernel
theorem ga_11 : gx_a 0 11 9 = true := by decide +kernel
theorem ga_9 : gx_a 0 9 9 = true := by decide +kernel
theorem ga_7 : gx_a 0 7 72 = true := by decide +kernel
theorem ga_8 : gx_a 0 8 72 = true := by decide +kernel
theorem ga_12 : gx_a 0 12 18 = true := by decide +kernel
theorem kg_18 : (18 : Int32) = Int32.ofInt (18) := by decide +kernel
theorem ga_13 : gx_a 0 13 18 = true := by decide +kernel
theorem ga_10 : gx_a 0 10 9 = true := by decide +kernel
theorem ga_6_0 {k : Nat} (h : fx_oc k 6 = true) : gx_a 0 (k + 1) 288 = true := by
  have q : (List.range fx_N).all (fun k => !(fx_oc k 6) || gx_a 0 (k + 1) 288) = true := by decide +kernel
  have q2 := List.all_eq_true.mp q k (List.mem_range.mpr (fx_oc_s h).1)
  rw [h] at q2
  exact q2
theorem kg_288 : (288 : Int32) = Int32.ofInt (288) := by decide +kernel
theorem ga_6_1 {k : Nat} (h : fx_oc k 6 = true) : gx_a 0 (k + 2) 27 = true := by
  have q : (List.range fx_N).all (fun k => !(fx_oc k 6) || gx_a 0 (k + 2) 27) = true := by decide +kernel
  have q2 := List.all_eq_true.mp q k (List.mem_range.mpr (fx_oc_s h).1)
  rw [h] at q2
  exact q2
theorem kg_27 : (27 : Int32) = Int32.ofInt (27) := by decide +kernel
theorem ga_6_2 {k : Nat} (h : fx_oc k 6 = true) : gx_a 0 (k + 3) 12 = true := by
  have q : (List.range fx_N).all (fun k => !(fx_oc k 6) || gx_a 0 (k + 3) 12) = true := by decide +kernel
  have q2 := List.all_eq_true.mp q k (List.mem_range.mpr (fx_oc_s h).1)
  rw [h] at q2
  exact q2
theorem ga_6_3 {k : Nat} (h : fx_oc k 6 = true) : gx_a 0 (k + 4) 8 = true := by
  have q : (List.range fx_N).all (fun k => !(fx_oc k 6) || gx_a 0 (k + 4) 8) = true := by decide +kernel
  have q2 := List.all_eq_true.mp q k (List.mem_range.mpr (fx_oc_s h).1)
  rw [h] at q2
  exact q2
theorem kg_7 : (7 : Int32) = Int32.ofInt (7) := by decide +kernel
theorem ga_7_0 {k : Nat} (h : fx_oc k 7 = true) : gx_a 0 (k + 1) 8 = true := by
  have q : (List.range fx_N).all (fun k => !(fx_oc k 7) || gx_a 0 (k + 1) 8) = true := by decide +kernel
  have q2 := List.all_eq_true.mp q k (List.mem_range.mpr (fx_oc_s h).1)
  rw [h] at q2
  exact q2
theorem ga_7_3 {k : Nat} (h : fx_oc k 7 = true) : gx_a 0 (k + 4) 72 = true := by
  have q : (List.range fx_N).all (fun k => !(fx_oc k 7) || gx_a 0 (k + 4) 72) = true := by decide +kernel
  have q2 := List.all_eq_true.mp q k (List.mem_range.mpr (fx_oc_s h).1)
  rw [h] at q2
  exact q2
theorem ga_7_4 {k : Nat} (h : fx_oc k 7 = true) : gx_a 0 (k + 5) 72 = true := by
  have q : (List.range fx_N).all (fun k => !(fx_oc k 7) || gx_a 0 (k + 5) 72) = true := by decide +kernel
  have q2 := List.all_eq_true.mp q k (List.mem_range.mpr (fx_oc_s h).1)
  rw [h] at q2
  exact q2
theorem ga_7_5 {k : Nat} (h : fx_oc k 7 = true) : gx_a 0 (k + 6) 72 = true := by
  have q : (List.range fx_N).all (fun k => !(fx_oc k 7) || gx_a 0 (k + 6) 72) = true := by decide +kernel
  have q2 := List.all_eq_true.mp q k (List.mem_range.mpr (fx_oc_s h).1)
  rw [h] at q2
  exact q2
theorem ga_7_6 {k : Nat} (h : fx_oc k 7 = true) : gx_a 0 (k + 7) 72 = true := by
  have q : (List.range fx_N).all (fun k => !(fx_oc k 7) || gx_a 0 (k + 7) 72) = true := by decide +kernel
  have q2 := List.all_eq_true.mp q k (List.mem_range.mpr (fx_oc_s h).1)
  rw [h] at q2
  exact q2
theorem ga_7_7 {k : Nat} (h : fx_oc k 7 = true) : gx_a 0 (k + 8) 72 = true := by
  have q : (List.range fx_N).all (fun k => !(fx_oc k 7) || gx_a 0 (k + 8) 72) = true := by decide +kernel
  have q2 := List.all_eq_true.mp q k (List.mem_range.mpr (fx_oc_s h).1)
  rw [h] at q2
  exact q2
theorem ga_7_1 {k : Nat} (h : fx_oc k 7 = true) : gx_a 0 (k + 2) 8 = true := by
  have q : (List.range fx_N).all (fun k => !(fx_oc k 7) || gx_a 0 (k + 2) 8) = true := by decide +kernel
  have q2 := List.all_eq_true.mp q k (List.mem_range.mpr (fx_oc_s h).1)
  rw [h] at q2
  exact q2
theorem kg_24 : (24 : Int32) = Int32.ofInt (24) := by decide +kernel
theorem kg_200 : (200 : Int32) = Int32.ofInt (200) := by decide +kernel
theorem kg_255 : (255 : Int32) = Int32.ofInt (255) := by decide +kernel
theorem ga_15 : gx_a 0 15 200 = true := by decide +kernel
theorem kg_m8 : (-8 : Int32) = Int32.ofInt (-8) := by decide +kernel
theorem kg_20 : (20 : Int32) = Int32.ofInt (20) := by decide +kernel
theorem ga_70 : gx_a 4 70 3 = true := by decide +kernel
theorem ga_3 : gx_a 0 3 27 = true := by decide +kernel
theorem ga_69 : gx_a 0 69 288 = true := by decide +kernel
theorem kg_100 : (100 : Int32) = Int32.ofInt (100) := by decide +kernel
theorem kg_340 : (340 : Int32) = Int32.ofInt (340) := by decide +kernel
theorem kg_2720 : (2720 : Int32) = Int32.ofInt (2720) := by decide +kernel
theorem ga_217 : gx_a 0 217 2720 = true := by decide +kernel
theorem ga_216 : gx_a 0 216 340 = true := by decide +kernel
theorem ga_218 : gx_a 3 218 200 = true := by decide +kernel
theorem kgl_97 : (97 : Int64) = Int64.ofInt (97) := by decide +kernel
theorem kgl_104 : (104 : Int64) = Int64.ofInt (104) := by decide +kernel
theorem kgl_48 : (48 : Int64) = Int64.ofInt (48) := by decide +kernel
theorem kgl_51 : (51 : Int64) = Int64.ofInt (51) := by decide +kernel
theorem ga_219 : gx_a 0 219 96 = true := by decide +kernel
theorem kgl_2 : (2 : Int64) = Int64.ofInt (2) := by decide +kernel
theorem kg_m2 : (-2 : Int32) = Int32.ofInt (-2) := by decide +kernel
theorem kg_61 : (61 : Int32) = Int32.ofInt (61) := by decide +kernel
theorem kgl_57 : (57 : Int64) = Int64.ofInt (57) := by decide +kernel
theorem kg_10000 : (10000 : Int32) = Int32.ofInt (10000) := by decide +kernel
theorem kg_10 : (10 : Int32) = Int32.ofInt (10) := by decide +kernel
theorem kg_9999 : (9999 : Int32) = Int32.ofInt (9999) := by decide +kernel
theorem ga_220 : gx_a 0 220 9 = true := by decide +kernel
theorem kg_44 : (44 : Int32) = Int32.ofInt (44) := by decide +kernel
theorem kg_5 : (5 : Int32) = Int32.ofInt (5) := by decide +kernel
theorem kg_32 : (32 : Int32) = Int32.ofInt (32) := by decide +kernel
theorem kg_72 : (72 : Int32) = Int32.ofInt (72) := by decide +kernel
theorem ga_222 : gx_a 0 222 72 = true := by decide +kernel
theorem ga_224 : gx_a 1 224 72 = true := by decide +kernel
theorem ga_225 : gx_a 1 225 72 = true := by decide +kernel
theorem ga_223 : gx_a 0 223 8 = true := by decide +kernel
theorem ga_221 : gx_a 1 221 8 = true := by decide +kernel
theorem ga_227 : gx_a 1 227 9 = true := by decide +kernel
theorem ga_228 : gx_a 1 228 9 = true := by decide +kernel
theorem ga_233 : gx_a 2 233 72 = true := by decide +kernel
theorem ga_232 : gx_a 2 232 72 = true := by decide +kernel
theorem ga_235 : gx_a 2 235 9 = true := by decide +kernel
theorem ga_230 : gx_a 1 230 9 = true := by decide +kernel
theorem ga_229 : gx_a 1 229 9 = true := by decide +kernel
theorem ga_231 : gx_a 1 231 8 = true := by decide +kernel
theorem ga_226 : gx_a 1 226 8 = true := by decide +kernel
theorem ga_234 : gx_a 2 234 72 = true := by decide +kernel
theorem ga_236 : gx_a 0 236 8 = true := by decide +kernel
theorem kgl_10 : (10 : Int64) = Int64.ofInt (10) := by decide +kernel
theorem kgl_m1 : (-1 : Int64) = Int64.ofInt (-1) := by decide +kernel
theorem kgl_7 : (7 : Int64) = Int64.ofInt (7) := by decide +kernel
theorem kgl_8 : (8 : Int64) = Int64.ofInt (8) := by decide +kernel
theorem ga_237 : gx_a 0 237 5 = true := by decide +kernel
theorem kgl_3 : (3 : Int64) = Int64.ofInt (3) := by decide +kernel
theorem ga_240 : gx_a 1 240 96 = true := by decide +kernel
theorem ga_241 : gx_a 1 241 96 = true := by decide +kernel
theorem ga_242 : gx_a 0 242 32 = true := by decide +kernel
theorem ga_243 : gx_a 0 243 4 = true := by decide +kernel
theorem kgl_9 : (9 : Int64) = Int64.ofInt (9) := by decide +kernel
theorem kg_36 : (36 : Int32) = Int32.ofInt (36) := by decide +kernel
theorem kg_11 : (11 : Int32) = Int32.ofInt (11) := by decide +kernel
theorem kg_65536 : (65536 : Int32) = Int32.ofInt (65536) := by decide +kernel
theorem kg_16 : (16 : Int32) = Int32.ofInt (16) := by decide +kernel
theorem kg_256 : (256 : Int32) = Int32.ofInt (256) := by decide +kernel
theorem kg_1431655765 : (1431655765 : Int32) = Int32.ofInt (1431655765) := by decide +kernel
theorem kg_858993459 : (858993459 : Int32) = Int32.ofInt (858993459) := by decide +kernel
theorem kg_252645135 : (252645135 : Int32) = Int32.ofInt (252645135) := by decide +kernel
theorem ga_7_2 {k : Nat} (h : fx_oc k 7 = true) : gx_a 0 (k + 3) 8 = true := by
  have q : (List.range fx_N).all (fun k => !(fx_oc k 7) || gx_a 0 (k + 3) 8) = true := by decide +kernel
  have q2 := List.all_eq_true.mp q k (List.mem_range.mpr (fx_oc_s h).1)
  rw [h] at q2
  exact q2
theorem ga_2_0 {k : Nat} (h : fx_oc k 2 = true) : gx_a 0 (k + 1) 8 = true := by
  have q : (List.range fx_N).all (fun k => !(fx_oc k 2) || gx_a 0 (k + 1) 8) = true := by decide +kernel
  have q2 := List.all_eq_true.mp q k (List.mem_range.mpr (fx_oc_s h).1)
  rw [h] at q2
  exact q2
theorem ga_2_1 {k : Nat} (h : fx_oc k 2 = true) : gx_a 0 (k + 2) 96 = true := by
  have q : (List.range fx_N).all (fun k => !(fx_oc k 2) || gx_a 0 (k + 2) 96) = true := by decide +kernel
  have q2 := List.all_eq_true.mp q k (List.mem_range.mpr (fx_oc_s h).1)
  rw [h] at q2
  exact q2
theorem ga_4 : gx_a 0 4 12 = true := by decide +kernel
theorem ga_5 : gx_a 0 5 8 = true := by decide +kernel
theorem ga_61 : gx_a 0 61 9 = true := by decide +kernel
theorem ga_2 : gx_a 0 2 288 = true := by decide +kernel
theorem kgl_m9223372036854775808 : (-9223372036854775808 : Int64) = Int64.ofInt (-9223372036854775808) := by decide +kernel
theorem kg_6 : (6 : Int32) = Int32.ofInt (6) := by decide +kernel
theorem ga_244 : gx_a 0 244 4 = true := by decide +kernel
theorem ga_238 : gx_a 0 238 4 = true := by decide +kernel
theorem ga_239 : gx_a 0 239 9 = true := by decide +kernel
theorem ga_245 : gx_a 0 245 27 = true := by decide +kernel
theorem kg_148 : (148 : Int32) = Int32.ofInt (148) := by decide +kernel
theorem kg_31 : (31 : Int32) = Int32.ofInt (31) := by decide +kernel
theorem kg_28 : (28 : Int32) = Int32.ofInt (28) := by decide +kernel
theorem kg_26 : (26 : Int32) = Int32.ofInt (26) := by decide +kernel
theorem kg_25 : (25 : Int32) = Int32.ofInt (25) := by decide +kernel
theorem kg_22 : (22 : Int32) = Int32.ofInt (22) := by decide +kernel
theorem kg_21 : (21 : Int32) = Int32.ofInt (21) := by decide +kernel
theorem kg_19 : (19 : Int32) = Int32.ofInt (19) := by decide +kernel
theorem kg_15 : (15 : Int32) = Int32.ofInt (15) := by decide +kernel
theorem kg_14 : (14 : Int32) = Int32.ofInt (14) := by decide +kernel
theorem kg_13 : (13 : Int32) = Int32.ofInt (13) := by decide +kernel
end
section
/-! ZoneShares$CountsText.slotOf(I)I -/
def gm_7 (x0 : Int) (s : gx_S) : Option (Int × gx_S) :=
  if (-2147483648 ≤ x0 ∧ x0 ≤ 2147483647) then (
  if ¬ x0 = 63 then (
    if x0 < 97 then (
      some ((-1), s)) else (
      if 104 < x0 then (
        some ((-1), s)) else (
        some ((x0 - 97), s)))) else (
    some (8, s))) else none
theorem gf_7 {x0 : Int} {yx0 : Int32} (e0 : yx0 = Int32.ofInt x0) {s : gx_S} {σ : fx_S} (es : σ = gx s) {q : Int × gx_S} (h : gm_7 x0 s = some q) : fm_7 yx0 σ = some (Int32.ofInt q.1, gx q.2) := by
  unfold gm_7 at h
  unfold fm_7
  obtain ⟨z5, h⟩ := fx_gd h
  by_cases c6 : ¬ x0 = 63
  · rw [if_pos c6] at h
    refine gb_t ((gc_ne e0 kg_63 z5 (by decide)).mpr c6) ?_
    by_cases c7 : x0 < 97
    · rw [if_pos c7] at h
      refine gb_t ((gc_lt e0 kg_97 z5 (by decide)).mpr c7) ?_
      have h := Option.some.inj h
      subst h
      exact gret kg_m1 es
    · rw [if_neg c7] at h
      refine gb_f (fun q => c7 ((gc_lt e0 kg_97 z5 (by decide)).mp q)) ?_
      by_cases c8 : 104 < x0
      · rw [if_pos c8] at h
        refine gb_t ((gc_lt kg_104 e0 (by decide) z5).mpr c8) ?_
        have h := Option.some.inj h
        subst h
        exact gret kg_m1 es
      · rw [if_neg c8] at h
        refine gb_f (fun q => c8 ((gc_lt kg_104 e0 (by decide) z5).mp q)) ?_
        have h := Option.some.inj h
        subst h
        exact gret (ga_sub e0 kg_97) es
  · rw [if_neg c6] at h
    refine gb_f (fun q => c6 ((gc_ne e0 kg_63 z5 (by decide)).mp q)) ?_
    have h := Option.some.inj h
    subst h
    exact gret kg_8 es

/-! ZoneShares$CountsText.isDigit(I)Z -/
def gm_8 (x0 : Int) (s : gx_S) : Option (Bool × gx_S) :=
  if (-2147483648 ≤ x0 ∧ x0 ≤ 2147483647) then (
  if x0 < 48 then (
    some (false, s)) else (
    if 57 < x0 then (
      some (false, s)) else (
      some (true, s)))) else none
theorem gf_8 {x0 : Int} {yx0 : Int32} (e0 : yx0 = Int32.ofInt x0) {s : gx_S} {σ : fx_S} (es : σ = gx s) {q : Bool × gx_S} (h : gm_8 x0 s = some q) : fm_8 yx0 σ = some (q.1, gx q.2) := by
  unfold gm_8 at h
  unfold fm_8
  obtain ⟨z4, h⟩ := fx_gd h
  by_cases c5 : x0 < 48
  · rw [if_pos c5] at h
    refine gb_t ((gc_lt e0 kg_48 z4 (by decide)).mpr c5) ?_
    have h := Option.some.inj h
    subst h
    exact gretb es
  · rw [if_neg c5] at h
    refine gb_f (fun q => c5 ((gc_lt e0 kg_48 z4 (by decide)).mp q)) ?_
    by_cases c6 : 57 < x0
    · rw [if_pos c6] at h
      refine gb_t ((gc_lt kg_57 e0 (by decide) z4).mpr c6) ?_
      have h := Option.some.inj h
      subst h
      exact gretb es
    · rw [if_neg c6] at h
      refine gb_f (fun q => c6 ((gc_lt kg_57 e0 (by decide) z4).mp q)) ?_
      have h := Option.some.inj h
      subst h
      exact gretb es

/-! ZoneShares$Fitter.addWeight(II)V -/
def gm_13_2 : Nat → Int → Int → Int → gx_S → Option (gx_S)
  | 0, _, _, _, _ => none
  | n + 1, x1, x2, x3, s =>
    if (-2147483648 ≤ x3 ∧ x3 ≤ 2147483647) then (
    if (-2147483648 ≤ (s.1 62 2) ∧ (s.1 62 2) ≤ 2147483647) then (
    if (s.1 62 2) ≤ x3 then (
      if 0 ≤ x1 ∧ x1 < 4 then (
      if (-2147483648 ≤ (x2 * (s.1 66 (x1).toNat)) ∧ (x2 * (s.1 66 (x1).toNat)) ≤ 2147483647) then (
      some (gw2 s 62 8 ((s.2 62 8) + (x2 * (s.1 66 (x1).toNat))))) else none) else none) else (
      if 0 ≤ x3 ∧ x3 < 8 then (
      if 0 ≤ ((x3 * 4) + x1) ∧ ((x3 * 4) + x1) < 32 then (
      gm_13_2 n x1 x2 (x3 + 1) (gw1 s 68 (x3).toNat ((s.1 68 (x3).toNat) + (x2 * (s.1 65 (((x3 * 4) + x1)).toNat))))) else none) else none)) else none) else none
theorem gf_13_2 : ∀ (n : Nat) (x1 : Int) (yx1 : Int32) (e1 : yx1 = Int32.ofInt x1) (x2 : Int) (yx2 : Int32) (e2 : yx2 = Int32.ofInt x2) (x3 : Int) (yx3 : Int32) (e3 : yx3 = Int32.ofInt x3) (s : gx_S) (σ : fx_S) (es : σ = gx s) (q : gx_S), gm_13_2 n x1 x2 x3 s = some q → fm_13_2 n yx1 yx2 yx3 σ = some (gx q) := by
  intro n
  induction n with
  | zero =>
    intro x1 yx1 e1 x2 yx2 e2 x3 yx3 e3 s σ es q  h
    rw [gm_13_2] at h
    exact fx_no h
  | succ n ih =>
    intro x1 yx1 e1 x2 yx2 e2 x3 yx3 e3 s σ es q  h
    rw [gm_13_2] at h
    rw [fm_13_2]
    obtain ⟨z1, h⟩ := fx_gd h
    obtain ⟨z2, h⟩ := fx_gd h
    by_cases c3 : (s.1 62 2) ≤ x3
    · rw [if_pos c3] at h
      refine gb_t ((gc_le (gf1 es 62 2) e3 z2 z1).mpr c3) ?_
      obtain ⟨z6, h⟩ := fx_gd h
      refine gb_bind (gl_ld es e1 ga_66 z6) ?_
      obtain ⟨z7, h⟩ := fx_gd h
      have h := Option.some.inj h
      subst h
      exact gretv (gx_w2 es (gal_add (gf2 es 62 8) (ga_i2l (ga_mul e2 (gr (s.1 66 (x1).toNat))) z7)))
    · rw [if_neg c3] at h
      refine gb_f (fun q => c3 ((gc_le (gf1 es 62 2) e3 z2 z1).mp q)) ?_
      obtain ⟨z10, h⟩ := fx_gd h
      refine gb_bind (gl_ld es e3 ga_68 z10) ?_
      obtain ⟨z13, h⟩ := fx_gd h
      refine gb_bind (gl_ld es (ga_add (ga_mul e3 kg_4) e1) ga_65 z13) ?_
      refine gb_bind (gl_st es e3 (ga_add (gr (s.1 68 (x3).toNat)) (ga_mul e2 (gr (s.1 65 (((x3 * 4) + x1)).toNat)))) ga_68 z10) ?_
      exact ih _ _ e1 _ _ e2 _ _ (ga_add e3 kg_1) _ _ (rfl : _ = gx (gw1 s 68 (x3).toNat ((s.1 68 (x3).toNat) + (x2 * (s.1 65 (((x3 * 4) + x1)).toNat))))) _ h
def gm_13 (x1 : Int) (x2 : Int) (s : gx_S) : Option (gx_S) :=
  gm_13_2 100000 x1 x2 0 s
theorem gf_13 {x1 : Int} {yx1 : Int32} (e1 : yx1 = Int32.ofInt x1) {x2 : Int} {yx2 : Int32} (e2 : yx2 = Int32.ofInt x2) {s : gx_S} {σ : fx_S} (es : σ = gx s) {q : gx_S} (h : gm_13 x1 x2 s = some q) : fm_13 yx1 yx2 σ = some (gx q) := by
  unfold gm_13 at h
  unfold fm_13
  exact gf_13_2 100000 _ _ e1 _ _ e2 _ _ kg_0 _ _ es _ h

/-! ZoneShares$Fitter.missed()J -/
def gm_14_4 : Nat → Int → Int → gx_S → Option (Int × gx_S)
  | 0, _, _, _ => none
  | n + 1, x1, x3, s =>
    if (-2147483648 ≤ x3 ∧ x3 ≤ 2147483647) then (
    if (-2147483648 ≤ (s.1 62 2) ∧ (s.1 62 2) ≤ 2147483647) then (
    if (s.1 62 2) ≤ x3 then (
      some (x1, s)) else (
      if 0 ≤ x3 ∧ x3 < 8 then (
      if (-2147483648 ≤ (s.1 64 (x3).toNat) ∧ (s.1 64 (x3).toNat) ≤ 2147483647) then (
      if (-2147483648 ≤ (s.1 68 (x3).toNat) ∧ (s.1 68 (x3).toNat) ≤ 2147483647) then (
      if (-9223372036854775808 ≤ (((s.1 64 (x3).toNat) * (s.2 62 8)) - ((s.2 62 1) * (s.1 68 (x3).toNat))) ∧ (((s.1 64 (x3).toNat) * (s.2 62 8)) - ((s.2 62 1) * (s.1 68 (x3).toNat))) ≤ 9223372036854775807) then (
      gm_14_4 n (x1 + (if 0 < (((s.1 64 (x3).toNat) * (s.2 62 8)) - ((s.2 62 1) * (s.1 68 (x3).toNat))) then (((s.1 64 (x3).toNat) * (s.2 62 8)) - ((s.2 62 1) * (s.1 68 (x3).toNat))) else -(((s.1 64 (x3).toNat) * (s.2 62 8)) - ((s.2 62 1) * (s.1 68 (x3).toNat))))) (x3 + 1) s) else none) else none) else none) else none)) else none) else none
theorem gf_14_4 : ∀ (n : Nat) (x1 : Int) (yx1 : Int64) (e1 : yx1 = Int64.ofInt x1) (x3 : Int) (yx3 : Int32) (e3 : yx3 = Int32.ofInt x3) (s : gx_S) (σ : fx_S) (es : σ = gx s) (q : Int × gx_S), gm_14_4 n x1 x3 s = some q → fm_14_4 n yx1 yx3 σ = some (Int64.ofInt q.1, gx q.2) := by
  intro n
  induction n with
  | zero =>
    intro x1 yx1 e1 x3 yx3 e3 s σ es q  h
    rw [gm_14_4] at h
    exact fx_no h
  | succ n ih =>
    intro x1 yx1 e1 x3 yx3 e3 s σ es q  h
    rw [gm_14_4] at h
    rw [fm_14_4]
    obtain ⟨z1, h⟩ := fx_gd h
    obtain ⟨z2, h⟩ := fx_gd h
    by_cases c3 : (s.1 62 2) ≤ x3
    · rw [if_pos c3] at h
      refine gb_t ((gc_le (gf1 es 62 2) e3 z2 z1).mpr c3) ?_
      have h := Option.some.inj h
      subst h
      exact gretl e1 es
    · rw [if_neg c3] at h
      refine gb_f (fun q => c3 ((gc_le (gf1 es 62 2) e3 z2 z1).mp q)) ?_
      obtain ⟨z6, h⟩ := fx_gd h
      refine gb_bind (gl_ld es e3 ga_64 z6) ?_
      obtain ⟨z7, h⟩ := fx_gd h
      refine gb_bind (gl_ld es e3 ga_68 z6) ?_
      obtain ⟨z10, h⟩ := fx_gd h
      obtain ⟨z11, h⟩ := fx_gd h
      exact ih _ _ (gal_add e1 (gal_ite (gcl_lt kgl_0 (gal_sub (gal_mul (ga_i2l (gr (s.1 64 (x3).toNat)) z7) (gf2 es 62 8)) (gal_mul (gf2 es 62 1) (ga_i2l (gr (s.1 68 (x3).toNat)) z10))) (by decide) z11) (gal_sub (gal_mul (ga_i2l (gr (s.1 64 (x3).toNat)) z7) (gf2 es 62 8)) (gal_mul (gf2 es 62 1) (ga_i2l (gr (s.1 68 (x3).toNat)) z10))) (gal_neg (gal_sub (gal_mul (ga_i2l (gr (s.1 64 (x3).toNat)) z7) (gf2 es 62 8)) (gal_mul (gf2 es 62 1) (ga_i2l (gr (s.1 68 (x3).toNat)) z10)))))) _ _ (ga_add e3 kg_1) _ _ es _ h
def gm_14 (s : gx_S) : Option (Int × gx_S) :=
  gm_14_4 100000 0 0 s
theorem gf_14 {s : gx_S} {σ : fx_S} (es : σ = gx s) {q : Int × gx_S} (h : gm_14 s = some q) : fm_14 σ = some (Int64.ofInt q.1, gx q.2) := by
  unfold gm_14 at h
  unfold fm_14
  exact gf_14_4 100000 _ _ kgl_0 _ _ kg_0 _ _ es _ h

/-! ZoneShares$Fitter.tryRow()V -/
def gm_16_33 (x1 : Int) (s : gx_S) : Option (gx_S) :=
  some (gcp (gw2 (gw2 s 62 9 x1) 62 10 ((gw2 s 62 9 x1).2 62 8)) 67 0 63 0 4)
theorem gf_16_33 (x1 : Int) (yx1 : Int64) (e1 : yx1 = Int64.ofInt x1) (s : gx_S) (σ : fx_S) (es : σ = gx s) (q : gx_S) (h : gm_16_33 x1 s = some q) : fm_16_33 yx1 σ = some (gx q) := by
  unfold gm_16_33 at h
  unfold fm_16_33
  refine gb_bind (gl_cpy (gx_w2 (gx_w2 es e1) (gf2 (gx_w2 es e1) 62 8)) kg_0 kg_0 kg_4 ga_67 ga_63 (by decide)) ?_
  have h := Option.some.inj h
  subst h
  exact gretv (rfl : _ = gx (gcp (gw2 (gw2 s 62 9 x1) 62 10 ((gw2 s 62 9 x1).2 62 8)) 67 0 63 0 4))
def gm_16 (s : gx_S) : Option (gx_S) :=
  (gm_14 s).bind fun q11 =>
  if (-9223372036854775808 ≤ (q11.2.2 62 10) ∧ (q11.2.2 62 10) ≤ 9223372036854775807) then (
  if (q11.2.2 62 10) = 0 then (
    gm_16_33 q11.1 q11.2) else (
    if (-9223372036854775808 ≤ (q11.1 * (q11.2.2 62 10)) ∧ (q11.1 * (q11.2.2 62 10)) ≤ 9223372036854775807) then (
    if (-9223372036854775808 ≤ ((q11.2.2 62 9) * (q11.2.2 62 8)) ∧ ((q11.2.2 62 9) * (q11.2.2 62 8)) ≤ 9223372036854775807) then (
    if ((q11.2.2 62 9) * (q11.2.2 62 8)) ≤ (q11.1 * (q11.2.2 62 10)) then (
      some q11.2) else (
      gm_16_33 q11.1 q11.2)) else none) else none)) else none
theorem gf_16 {s : gx_S} {σ : fx_S} (es : σ = gx s) {q : gx_S} (h : gm_16 s = some q) : fm_16 σ = some (gx q) := by
  unfold gm_16 at h
  unfold fm_16
  obtain ⟨q11, w10, h⟩ := fx_bd h
  refine gb_bind (gf_14 es w10) ?_
  obtain ⟨z12, h⟩ := fx_gd h
  by_cases c13 : (q11.2.2 62 10) = 0
  · rw [if_pos c13] at h
    refine gb_t ((gcl_eq (gf2 (rfl : _ = gx q11.2) 62 10) kgl_0 z12 (by decide)).mpr c13) ?_
    exact gf_16_33 _ _ (gr2 q11.1) _ _ (rfl : _ = gx q11.2) _ h
  · rw [if_neg c13] at h
    refine gb_f (fun q => c13 ((gcl_eq (gf2 (rfl : _ = gx q11.2) 62 10) kgl_0 z12 (by decide)).mp q)) ?_
    obtain ⟨z14, h⟩ := fx_gd h
    obtain ⟨z15, h⟩ := fx_gd h
    by_cases c16 : ((q11.2.2 62 9) * (q11.2.2 62 8)) ≤ (q11.1 * (q11.2.2 62 10))
    · rw [if_pos c16] at h
      refine gb_t ((gcl_le (gal_mul (gf2 (rfl : _ = gx q11.2) 62 9) (gf2 (rfl : _ = gx q11.2) 62 8)) (gal_mul (gr2 q11.1) (gf2 (rfl : _ = gx q11.2) 62 10)) z15 z14).mpr c16) ?_
      have h := Option.some.inj h
      subst h
      exact gretv (rfl : _ = gx q11.2)
    · rw [if_neg c16] at h
      refine gb_f (fun q => c16 ((gcl_le (gal_mul (gf2 (rfl : _ = gx q11.2) 62 9) (gf2 (rfl : _ = gx q11.2) 62 8)) (gal_mul (gr2 q11.1) (gf2 (rfl : _ = gx q11.2) 62 10)) z15 z14).mp q)) ?_
      exact gf_16_33 _ _ (gr2 q11.1) _ _ (rfl : _ = gx q11.2) _ h

/-! ZoneShares$Fitter.nextRow()V -/
def gm_17_71 (k_2 : Int → gx_S → Option (gx_S)) (x1 : Int) (s : gx_S) : Option (gx_S) :=
  k_2 (x1 + (-1)) s
theorem gf_17_71 {kf_2 : Int32 → fx_S → Option (fx_S)} {kg_2 : Int → gx_S → Option (gx_S)} (hk_2 : ∀ (x1 : Int) (yx1 : Int32) (e1 : yx1 = Int32.ofInt x1) (s : gx_S) (σ : fx_S) (es : σ = gx s) (q : gx_S), kg_2 x1 s = some q → kf_2 yx1 σ = some (gx q)) (x1 : Int) (yx1 : Int32) (e1 : yx1 = Int32.ofInt x1) (s : gx_S) (σ : fx_S) (es : σ = gx s) (q : gx_S) (h : gm_17_71 kg_2 x1 s = some q) : fm_17_71 kf_2 yx1 σ = some (gx q) := by
  unfold gm_17_71 at h
  unfold fm_17_71
  exact hk_2 _ _ (ga_add e1 kg_m1) _ _ es _ h
def gm_17_43 (k_2 : Int → gx_S → Option (gx_S)) (x1 : Int) (s : gx_S) : Option (gx_S) :=
  if 0 ≤ x1 ∧ x1 < 4 then (
  if (-2147483648 ≤ (s.1 66 (x1).toNat) ∧ (s.1 66 (x1).toNat) ≤ 2147483647) then (
  if (s.1 66 (x1).toNat) ≤ 0 then (
    gm_17_71 k_2 x1 s) else (
    (gm_13 x1 (-(s.1 67 (x1).toNat)) s).bind fun q9 =>
    gm_17_71 k_2 x1 (gw1 q9 67 (x1).toNat 0))) else none) else none
theorem gf_17_43 {kf_2 : Int32 → fx_S → Option (fx_S)} {kg_2 : Int → gx_S → Option (gx_S)} (hk_2 : ∀ (x1 : Int) (yx1 : Int32) (e1 : yx1 = Int32.ofInt x1) (s : gx_S) (σ : fx_S) (es : σ = gx s) (q : gx_S), kg_2 x1 s = some q → kf_2 yx1 σ = some (gx q)) (x1 : Int) (yx1 : Int32) (e1 : yx1 = Int32.ofInt x1) (s : gx_S) (σ : fx_S) (es : σ = gx s) (q : gx_S) (h : gm_17_43 kg_2 x1 s = some q) : fm_17_43 kf_2 yx1 σ = some (gx q) := by
  unfold gm_17_43 at h
  unfold fm_17_43
  obtain ⟨z3, h⟩ := fx_gd h
  refine gb_bind (gl_ld es e1 ga_66 z3) ?_
  obtain ⟨z4, h⟩ := fx_gd h
  by_cases c5 : (s.1 66 (x1).toNat) ≤ 0
  · rw [if_pos c5] at h
    refine gb_t ((gc_le (gr (s.1 66 (x1).toNat)) kg_0 z4 (by decide)).mpr c5) ?_
    exact gf_17_71 hk_2 _ _ e1 _ _ es _ h
  · rw [if_neg c5] at h
    refine gb_f (fun q => c5 ((gc_le (gr (s.1 66 (x1).toNat)) kg_0 z4 (by decide)).mp q)) ?_
    refine gb_bind (gl_ld es e1 ga_67 z3) ?_
    obtain ⟨q9, w8, h⟩ := fx_bd h
    refine gb_bind (gf_13 e1 (ga_neg (gr (s.1 67 (x1).toNat))) es w8) ?_
    refine gb_bind (gl_st (rfl : _ = gx q9) e1 kg_0 ga_67 z3) ?_
    exact gf_17_71 hk_2 _ _ e1 _ _ (rfl : _ = gx (gw1 q9 67 (x1).toNat 0)) _ h
def gm_17_2 : Nat → Int → gx_S → Option (gx_S)
  | 0, _, _ => none
  | n + 1, x1, s =>
    if (-2147483648 ≤ x1 ∧ x1 ≤ 2147483647) then (
    if x1 < 0 then (
      some s) else (
      if 0 ≤ x1 ∧ x1 < 4 then (
      if (-2147483648 ≤ (s.1 66 (x1).toNat) ∧ (s.1 66 (x1).toNat) ≤ 2147483647) then (
      if (s.1 66 (x1).toNat) ≤ 0 then (
        gm_17_43 (gm_17_2 n) x1 s) else (
        if (-2147483648 ≤ (s.1 67 (x1).toNat) ∧ (s.1 67 (x1).toNat) ≤ 2147483647) then (
        if 9 ≤ (s.1 67 (x1).toNat) then (
          gm_17_43 (gm_17_2 n) x1 s) else (
          (gm_13 x1 1 (gw1 s 67 (x1).toNat ((s.1 67 (x1).toNat) + 1))).bind fun q17 =>
          some q17)) else none)) else none) else none)) else none
theorem gf_17_2 : ∀ (n : Nat) (x1 : Int) (yx1 : Int32) (e1 : yx1 = Int32.ofInt x1) (s : gx_S) (σ : fx_S) (es : σ = gx s) (q : gx_S), gm_17_2 n x1 s = some q → fm_17_2 n yx1 σ = some (gx q) := by
  intro n
  induction n with
  | zero =>
    intro x1 yx1 e1 s σ es q  h
    rw [gm_17_2] at h
    exact fx_no h
  | succ n ih =>
    intro x1 yx1 e1 s σ es q  h
    rw [gm_17_2] at h
    rw [fm_17_2]
    obtain ⟨z1, h⟩ := fx_gd h
    by_cases c2 : x1 < 0
    · rw [if_pos c2] at h
      refine gb_t ((gc_lt e1 kg_0 z1 (by decide)).mpr c2) ?_
      have h := Option.some.inj h
      subst h
      exact gretv es
    · rw [if_neg c2] at h
      refine gb_f (fun q => c2 ((gc_lt e1 kg_0 z1 (by decide)).mp q)) ?_
      obtain ⟨z5, h⟩ := fx_gd h
      refine gb_bind (gl_ld es e1 ga_66 z5) ?_
      obtain ⟨z6, h⟩ := fx_gd h
      by_cases c7 : (s.1 66 (x1).toNat) ≤ 0
      · rw [if_pos c7] at h
        refine gb_t ((gc_le (gr (s.1 66 (x1).toNat)) kg_0 z6 (by decide)).mpr c7) ?_
        exact gf_17_43 ih _ _ e1 _ _ es _ h
      · rw [if_neg c7] at h
        refine gb_f (fun q => c7 ((gc_le (gr (s.1 66 (x1).toNat)) kg_0 z6 (by decide)).mp q)) ?_
        refine gb_bind (gl_ld es e1 ga_67 z5) ?_
        obtain ⟨z10, h⟩ := fx_gd h
        by_cases c11 : 9 ≤ (s.1 67 (x1).toNat)
        · rw [if_pos c11] at h
          refine gb_t ((gc_le kg_9 (gr (s.1 67 (x1).toNat)) (by decide) z10).mpr c11) ?_
          exact gf_17_43 ih _ _ e1 _ _ es _ h
        · rw [if_neg c11] at h
          refine gb_f (fun q => c11 ((gc_le kg_9 (gr (s.1 67 (x1).toNat)) (by decide) z10).mp q)) ?_
          refine gb_bind (gl_ld es e1 ga_67 z5) ?_
          refine gb_bind (gl_st es e1 (ga_add (gr (s.1 67 (x1).toNat)) kg_1) ga_67 z5) ?_
          obtain ⟨q17, w16, h⟩ := fx_bd h
          refine gb_bind (gf_13 e1 kg_1 (rfl : _ = gx (gw1 s 67 (x1).toNat ((s.1 67 (x1).toNat) + 1))) w16) ?_
          have h := Option.some.inj h
          subst h
          exact gretv (rfl : _ = gx q17)
def gm_17 (s : gx_S) : Option (gx_S) :=
  gm_17_2 100000 3 s
theorem gf_17 {s : gx_S} {σ : fx_S} (es : σ = gx s) {q : gx_S} (h : gm_17 s = some q) : fm_17 σ = some (gx q) := by
  unfold gm_17 at h
  unfold fm_17
  exact gf_17_2 100000 _ _ kg_3 _ _ es _ h

/-! ZoneShares$Group.lacks(I)Z -/
def gm_21_14 (x0 : Nat) (x1 : Int) (s0 : Int) (s : gx_S) : Option (Bool × gx_S) :=
  if (-2147483648 ≤ s0 ∧ s0 ≤ 2147483647) then (
  if ¬ s0 = 0 then (
    some (false, (gw1 s x0 8 (((Int32.ofInt (s.1 x0 8) ||| Int32.ofInt x1)).toInt)))) else (
    some (true, (gw1 s x0 8 (((Int32.ofInt (s.1 x0 8) ||| Int32.ofInt x1)).toInt))))) else none
theorem gf_21_14 (x0 : Nat) (x1 : Int) (yx1 : Int32) (e1 : yx1 = Int32.ofInt x1) (s0 : Int) (ys0 : Int32) (es0 : ys0 = Int32.ofInt s0) (s : gx_S) (σ : fx_S) (es : σ = gx s) (q : Bool × gx_S) (g0 : fx_oc x0 2 = true) (h : gm_21_14 x0 x1 s0 s = some q) : fm_21_14 x0 yx1 ys0 σ = some (q.1, gx q.2) := by
  unfold gm_21_14 at h
  unfold fm_21_14
  obtain ⟨z1, h⟩ := fx_gd h
  by_cases c2 : ¬ s0 = 0
  · rw [if_pos c2] at h
    refine gb_t ((gc_ne es0 kg_0 z1 (by decide)).mpr c2) ?_
    have h := Option.some.inj h
    subst h
    exact gretb (gx_w1 es (ga_o2 (f := (fun a b => (a ||| b))) (gf1 es x0 8) e1))
  · rw [if_neg c2] at h
    refine gb_f (fun q => c2 ((gc_ne es0 kg_0 z1 (by decide)).mp q)) ?_
    have h := Option.some.inj h
    subst h
    exact gretb (gx_w1 es (ga_o2 (f := (fun a b => (a ||| b))) (gf1 es x0 8) e1))
def gm_21 (x0 : Nat) (x1 : Int) (s : gx_S) : Option (Bool × gx_S) :=
  if fx_oc x0 2 = true then (
  if (-2147483648 ≤ ((Int32.ofInt (s.1 x0 8) &&& Int32.ofInt x1)).toInt ∧ ((Int32.ofInt (s.1 x0 8) &&& Int32.ofInt x1)).toInt ≤ 2147483647) then (
  if ((Int32.ofInt (s.1 x0 8) &&& Int32.ofInt x1)).toInt = 0 then (
    gm_21_14 x0 x1 0 s) else (
    gm_21_14 x0 x1 1 s)) else none) else none
theorem gf_21 {x0 : Nat} {x1 : Int} {yx1 : Int32} (e1 : yx1 = Int32.ofInt x1) {s : gx_S} {σ : fx_S} (es : σ = gx s) {q : Bool × gx_S} (h : gm_21 x0 x1 s = some q) : fm_21 x0 yx1 σ = some (q.1, gx q.2) := by
  unfold gm_21 at h
  unfold fm_21
  obtain ⟨gg, h⟩ := fx_gd h
  refine gb_t gg ?_
  have g0 := gg
  obtain ⟨z5, h⟩ := fx_gd h
  by_cases c6 : ((Int32.ofInt (s.1 x0 8) &&& Int32.ofInt x1)).toInt = 0
  · rw [if_pos c6] at h
    refine gb_t ((gc_eq (ga_o2 (f := (fun a b => (a &&& b))) (gf1 es x0 8) e1) kg_0 z5 (by decide)).mpr c6) ?_
    exact gf_21_14 _ _ _ e1 _ _ kg_0 _ _ es _ g0 h
  · rw [if_neg c6] at h
    refine gb_f (fun q => c6 ((gc_eq (ga_o2 (f := (fun a b => (a &&& b))) (gf1 es x0 8) e1) kg_0 z5 (by decide)).mp q)) ?_
    exact gf_21_14 _ _ _ e1 _ _ kg_1 _ _ es _ g0 h

/-! ZoneShares$LayerText.valueOf(II)I -/
def gm_35 (x0 : Int) (x1 : Int) (s : gx_S) : Option (Int × gx_S) :=
  if (-2147483648 ≤ x1 ∧ x1 ≤ 2147483647) then (
  if ¬ x1 = 2 then (
    if (-2147483648 ≤ x0 ∧ x0 ≤ 2147483647) then (
    if ¬ x0 = 46 then (
      if x0 < 97 then (
        some ((-1), s)) else (
        if 104 < x0 then (
          some ((-1), s)) else (
          some ((x0 - 97), s)))) else (
      some (8, s))) else none) else (
    if (-2147483648 ≤ x0 ∧ x0 ≤ 2147483647) then (
    if x0 < 48 then (
      some ((-1), s)) else (
      if 51 < x0 then (
        some ((-1), s)) else (
        some ((x0 - 48), s)))) else none)) else none
theorem gf_35 {x0 : Int} {yx0 : Int32} (e0 : yx0 = Int32.ofInt x0) {x1 : Int} {yx1 : Int32} (e1 : yx1 = Int32.ofInt x1) {s : gx_S} {σ : fx_S} (es : σ = gx s) {q : Int × gx_S} (h : gm_35 x0 x1 s = some q) : fm_35 yx0 yx1 σ = some (Int32.ofInt q.1, gx q.2) := by
  unfold gm_35 at h
  unfold fm_35
  obtain ⟨z10, h⟩ := fx_gd h
  by_cases c11 : ¬ x1 = 2
  · rw [if_pos c11] at h
    refine gb_t ((gc_ne e1 kg_2 z10 (by decide)).mpr c11) ?_
    obtain ⟨z12, h⟩ := fx_gd h
    by_cases c13 : ¬ x0 = 46
    · rw [if_pos c13] at h
      refine gb_t ((gc_ne e0 kg_46 z12 (by decide)).mpr c13) ?_
      by_cases c14 : x0 < 97
      · rw [if_pos c14] at h
        refine gb_t ((gc_lt e0 kg_97 z12 (by decide)).mpr c14) ?_
        have h := Option.some.inj h
        subst h
        exact gret kg_m1 es
      · rw [if_neg c14] at h
        refine gb_f (fun q => c14 ((gc_lt e0 kg_97 z12 (by decide)).mp q)) ?_
        by_cases c15 : 104 < x0
        · rw [if_pos c15] at h
          refine gb_t ((gc_lt kg_104 e0 (by decide) z12).mpr c15) ?_
          have h := Option.some.inj h
          subst h
          exact gret kg_m1 es
        · rw [if_neg c15] at h
          refine gb_f (fun q => c15 ((gc_lt kg_104 e0 (by decide) z12).mp q)) ?_
          have h := Option.some.inj h
          subst h
          exact gret (ga_sub e0 kg_97) es
    · rw [if_neg c13] at h
      refine gb_f (fun q => c13 ((gc_ne e0 kg_46 z12 (by decide)).mp q)) ?_
      have h := Option.some.inj h
      subst h
      exact gret kg_8 es
  · rw [if_neg c11] at h
    refine gb_f (fun q => c11 ((gc_ne e1 kg_2 z10 (by decide)).mp q)) ?_
    obtain ⟨z16, h⟩ := fx_gd h
    by_cases c17 : x0 < 48
    · rw [if_pos c17] at h
      refine gb_t ((gc_lt e0 kg_48 z16 (by decide)).mpr c17) ?_
      have h := Option.some.inj h
      subst h
      exact gret kg_m1 es
    · rw [if_neg c17] at h
      refine gb_f (fun q => c17 ((gc_lt e0 kg_48 z16 (by decide)).mp q)) ?_
      by_cases c18 : 51 < x0
      · rw [if_pos c18] at h
        refine gb_t ((gc_lt kg_51 e0 (by decide) z16).mpr c18) ?_
        have h := Option.some.inj h
        subst h
        exact gret kg_m1 es
      · rw [if_neg c18] at h
        refine gb_f (fun q => c18 ((gc_lt kg_51 e0 (by decide) z16).mp q)) ?_
        have h := Option.some.inj h
        subst h
        exact gret (ga_sub e0 kg_48) es

/-! ZoneShares$LayerText.wrongSign()I -/
def gm_36 (s : gx_S) : Option (Int × gx_S) :=
  if (-2147483648 ≤ (s.1 58 3) ∧ (s.1 58 3) ≤ 2147483647) then (
  if (-2147483648 ≤ (s.1 58 2) ∧ (s.1 58 2) ≤ 2147483647) then (
  if (s.1 58 3) < (s.1 58 2) then (
    some (0, s)) else (
    some (3, s))) else none) else none
theorem gf_36 {s : gx_S} {σ : fx_S} (es : σ = gx s) {q : Int × gx_S} (h : gm_36 s = some q) : fm_36 σ = some (Int32.ofInt q.1, gx q.2) := by
  unfold gm_36 at h
  unfold fm_36
  obtain ⟨z4, h⟩ := fx_gd h
  obtain ⟨z5, h⟩ := fx_gd h
  by_cases c6 : (s.1 58 3) < (s.1 58 2)
  · rw [if_pos c6] at h
    refine gb_t ((gc_lt (gf1 es 58 3) (gf1 es 58 2) z4 z5).mpr c6) ?_
    have h := Option.some.inj h
    subst h
    exact gret kg_0 es
  · rw [if_neg c6] at h
    refine gb_f (fun q => c6 ((gc_lt (gf1 es 58 3) (gf1 es 58 2) z4 z5).mp q)) ?_
    have h := Option.some.inj h
    subst h
    exact gret kg_3 es

/-! ZoneShares$LayerText.wrongBreak(I)I -/
def gm_37_40 (x1 : Int) (s : gx_S) : Option (Int × gx_S) :=
  if (-2147483648 ≤ x1 ∧ x1 ≤ 2147483647) then (
  if ¬ x1 = 47 then (
    if (-2147483648 ≤ (s.1 58 6) ∧ (s.1 58 6) ≤ 2147483647) then (
    if (s.1 58 6) = 0 then (
      some (0, s)) else (
      if (-2147483648 ≤ ((s.1 58 1) + 1) ∧ ((s.1 58 1) + 1) ≤ 2147483647) then (
      if (-2147483648 ≤ (s.1 58 4) ∧ (s.1 58 4) ≤ 2147483647) then (
      if (s.1 58 4) ≤ ((s.1 58 1) + 1) then (
        some (0, s)) else (
        some (4, s))) else none) else none)) else none) else (
    if (-2147483648 ≤ ((s.1 58 1) + 1) ∧ ((s.1 58 1) + 1) ≤ 2147483647) then (
    if (-2147483648 ≤ (s.1 58 4) ∧ (s.1 58 4) ≤ 2147483647) then (
    if ((s.1 58 1) + 1) < (s.1 58 4) then (
      some (0, s)) else (
      some (3, s))) else none) else none)) else none
theorem gf_37_40 (x1 : Int) (yx1 : Int32) (e1 : yx1 = Int32.ofInt x1) (s : gx_S) (σ : fx_S) (es : σ = gx s) (q : Int × gx_S) (h : gm_37_40 x1 s = some q) : fm_37_40 yx1 σ = some (Int32.ofInt q.1, gx q.2) := by
  unfold gm_37_40 at h
  unfold fm_37_40
  obtain ⟨z1, h⟩ := fx_gd h
  by_cases c2 : ¬ x1 = 47
  · rw [if_pos c2] at h
    refine gb_t ((gc_ne e1 kg_47 z1 (by decide)).mpr c2) ?_
    obtain ⟨z3, h⟩ := fx_gd h
    by_cases c4 : (s.1 58 6) = 0
    · rw [if_pos c4] at h
      refine gb_t ((gc_eq (gf1 es 58 6) kg_0 z3 (by decide)).mpr c4) ?_
      have h := Option.some.inj h
      subst h
      exact gret kg_0 es
    · rw [if_neg c4] at h
      refine gb_f (fun q => c4 ((gc_eq (gf1 es 58 6) kg_0 z3 (by decide)).mp q)) ?_
      obtain ⟨z5, h⟩ := fx_gd h
      obtain ⟨z6, h⟩ := fx_gd h
      by_cases c7 : (s.1 58 4) ≤ ((s.1 58 1) + 1)
      · rw [if_pos c7] at h
        refine gb_t ((gc_le (gf1 es 58 4) (ga_add (gf1 es 58 1) kg_1) z6 z5).mpr c7) ?_
        have h := Option.some.inj h
        subst h
        exact gret kg_0 es
      · rw [if_neg c7] at h
        refine gb_f (fun q => c7 ((gc_le (gf1 es 58 4) (ga_add (gf1 es 58 1) kg_1) z6 z5).mp q)) ?_
        have h := Option.some.inj h
        subst h
        exact gret kg_4 es
  · rw [if_neg c2] at h
    refine gb_f (fun q => c2 ((gc_ne e1 kg_47 z1 (by decide)).mp q)) ?_
    obtain ⟨z8, h⟩ := fx_gd h
    obtain ⟨z9, h⟩ := fx_gd h
    by_cases c10 : ((s.1 58 1) + 1) < (s.1 58 4)
    · rw [if_pos c10] at h
      refine gb_t ((gc_lt (ga_add (gf1 es 58 1) kg_1) (gf1 es 58 4) z8 z9).mpr c10) ?_
      have h := Option.some.inj h
      subst h
      exact gret kg_0 es
    · rw [if_neg c10] at h
      refine gb_f (fun q => c10 ((gc_lt (ga_add (gf1 es 58 1) kg_1) (gf1 es 58 4) z8 z9).mp q)) ?_
      have h := Option.some.inj h
      subst h
      exact gret kg_3 es
def gm_37_20 (x1 : Int) (s : gx_S) : Option (Int × gx_S) :=
  if (-2147483648 ≤ (s.1 58 5) ∧ (s.1 58 5) ≤ 2147483647) then (
  if (s.1 58 5) = 0 then (
    gm_37_40 x1 s) else (
    if (-2147483648 ≤ (s.1 58 3) ∧ (s.1 58 3) ≤ 2147483647) then (
    if (-2147483648 ≤ (s.1 58 2) ∧ (s.1 58 2) ≤ 2147483647) then (
    if (s.1 58 2) ≤ (s.1 58 3) then (
      gm_37_40 x1 s) else (
      some (2, s))) else none) else none)) else none
theorem gf_37_20 (x1 : Int) (yx1 : Int32) (e1 : yx1 = Int32.ofInt x1) (s : gx_S) (σ : fx_S) (es : σ = gx s) (q : Int × gx_S) (h : gm_37_20 x1 s = some q) : fm_37_20 yx1 σ = some (Int32.ofInt q.1, gx q.2) := by
  unfold gm_37_20 at h
  unfold fm_37_20
  obtain ⟨z1, h⟩ := fx_gd h
  by_cases c2 : (s.1 58 5) = 0
  · rw [if_pos c2] at h
    refine gb_t ((gc_eq (gf1 es 58 5) kg_0 z1 (by decide)).mpr c2) ?_
    exact gf_37_40 _ _ e1 _ _ es _ h
  · rw [if_neg c2] at h
    refine gb_f (fun q => c2 ((gc_eq (gf1 es 58 5) kg_0 z1 (by decide)).mp q)) ?_
    obtain ⟨z3, h⟩ := fx_gd h
    obtain ⟨z4, h⟩ := fx_gd h
    by_cases c5 : (s.1 58 2) ≤ (s.1 58 3)
    · rw [if_pos c5] at h
      refine gb_t ((gc_le (gf1 es 58 2) (gf1 es 58 3) z4 z3).mpr c5) ?_
      exact gf_37_40 _ _ e1 _ _ es _ h
    · rw [if_neg c5] at h
      refine gb_f (fun q => c5 ((gc_le (gf1 es 58 2) (gf1 es 58 3) z4 z3).mp q)) ?_
      have h := Option.some.inj h
      subst h
      exact gret kg_2 es
def gm_37 (x1 : Int) (s : gx_S) : Option (Int × gx_S) :=
  if (-2147483648 ≤ (s.1 58 3) ∧ (s.1 58 3) ≤ 2147483647) then (
  if (s.1 58 3) = 0 then (
    some (1, s)) else (
    if (-2147483648 ≤ x1 ∧ x1 ≤ 2147483647) then (
    if x1 = 47 then (
      gm_37_20 x1 s) else (
      if x1 = (-1) then (
        gm_37_20 x1 s) else (
        some (1, s)))) else none)) else none
theorem gf_37 {x1 : Int} {yx1 : Int32} (e1 : yx1 = Int32.ofInt x1) {s : gx_S} {σ : fx_S} (es : σ = gx s) {q : Int × gx_S} (h : gm_37 x1 s = some q) : fm_37 yx1 σ = some (Int32.ofInt q.1, gx q.2) := by
  unfold gm_37 at h
  unfold fm_37
  obtain ⟨z21, h⟩ := fx_gd h
  by_cases c22 : (s.1 58 3) = 0
  · rw [if_pos c22] at h
    refine gb_t ((gc_eq (gf1 es 58 3) kg_0 z21 (by decide)).mpr c22) ?_
    have h := Option.some.inj h
    subst h
    exact gret kg_1 es
  · rw [if_neg c22] at h
    refine gb_f (fun q => c22 ((gc_eq (gf1 es 58 3) kg_0 z21 (by decide)).mp q)) ?_
    obtain ⟨z23, h⟩ := fx_gd h
    by_cases c24 : x1 = 47
    · rw [if_pos c24] at h
      refine gb_t ((gc_eq e1 kg_47 z23 (by decide)).mpr c24) ?_
      exact gf_37_20 _ _ e1 _ _ es _ h
    · rw [if_neg c24] at h
      refine gb_f (fun q => c24 ((gc_eq e1 kg_47 z23 (by decide)).mp q)) ?_
      by_cases c25 : x1 = (-1)
      · rw [if_pos c25] at h
        refine gb_t ((gc_eq e1 kg_m1 z23 (by decide)).mpr c25) ?_
        exact gf_37_20 _ _ e1 _ _ es _ h
      · rw [if_neg c25] at h
        refine gb_f (fun q => c25 ((gc_eq e1 kg_m1 z23 (by decide)).mp q)) ?_
        have h := Option.some.inj h
        subst h
        exact gret kg_1 es

/-! ZoneShares$LayerText.endRow()V -/
def gm_38 (s : gx_S) : Option (gx_S) :=
  some (gw1 (gw1 (gw1 (gw1 s 58 2 (s.1 58 3)) 58 5 1) 58 1 (((gw1 (gw1 s 58 2 (s.1 58 3)) 58 5 1).1 58 1) + 1)) 58 3 0)
theorem gf_38 {s : gx_S} {σ : fx_S} (es : σ = gx s) {q : gx_S} (h : gm_38 s = some q) : fm_38 σ = some (gx q) := by
  unfold gm_38 at h
  unfold fm_38
  have h := Option.some.inj h
  subst h
  exact gretv (gx_w1 (gx_w1 (gx_w1 (gx_w1 es (gf1 es 58 3)) kg_1) (ga_add (gf1 (gx_w1 (gx_w1 es (gf1 es 58 3)) kg_1) 58 1) kg_1)) kg_0)

/-! ZoneShares$LayerText.put(I)V -/
def gm_39_28 (s : gx_S) : Option (gx_S) :=
  some (gw1 s 58 3 ((s.1 58 3) + 1))
theorem gf_39_28 (s : gx_S) (σ : fx_S) (es : σ = gx s) (q : gx_S) (h : gm_39_28 s = some q) : fm_39_28 σ = some (gx q) := by
  unfold gm_39_28 at h
  unfold fm_39_28
  have h := Option.some.inj h
  subst h
  exact gretv (gx_w1 es (ga_add (gf1 es 58 3) kg_1))
def gm_39 (x1 : Int) (s : gx_S) : Option (gx_S) :=
  if (-2147483648 ≤ (((s.1 58 1) * (s.1 58 2)) + (s.1 58 3)) ∧ (((s.1 58 1) * (s.1 58 2)) + (s.1 58 3)) ≤ 2147483647) then (
  if 96 ≤ (((s.1 58 1) * (s.1 58 2)) + (s.1 58 3)) then (
    gm_39_28 s) else (
    if 0 ≤ (((s.1 58 1) * (s.1 58 2)) + (s.1 58 3)) ∧ (((s.1 58 1) * (s.1 58 2)) + (s.1 58 3)) < 96 then (
    gm_39_28 (gw1 s 59 ((((s.1 58 1) * (s.1 58 2)) + (s.1 58 3))).toNat x1)) else none)) else none
theorem gf_39 {x1 : Int} {yx1 : Int32} (e1 : yx1 = Int32.ofInt x1) {s : gx_S} {σ : fx_S} (es : σ = gx s) {q : gx_S} (h : gm_39 x1 s = some q) : fm_39 yx1 σ = some (gx q) := by
  unfold gm_39 at h
  unfold fm_39
  obtain ⟨z6, h⟩ := fx_gd h
  by_cases c7 : 96 ≤ (((s.1 58 1) * (s.1 58 2)) + (s.1 58 3))
  · rw [if_pos c7] at h
    refine gb_t ((gc_le kg_96 (ga_add (ga_mul (gf1 es 58 1) (gf1 es 58 2)) (gf1 es 58 3)) (by decide) z6).mpr c7) ?_
    exact gf_39_28 _ _ es _ h
  · rw [if_neg c7] at h
    refine gb_f (fun q => c7 ((gc_le kg_96 (ga_add (ga_mul (gf1 es 58 1) (gf1 es 58 2)) (gf1 es 58 3)) (by decide) z6).mp q)) ?_
    obtain ⟨z10, h⟩ := fx_gd h
    refine gb_bind (gl_st es (ga_add (ga_mul (gf1 es 58 1) (gf1 es 58 2)) (gf1 es 58 3)) e1 ga_59 z10) ?_
    exact gf_39_28 _ _ (rfl : _ = gx (gw1 s 59 ((((s.1 58 1) * (s.1 58 2)) + (s.1 58 3))).toNat x1)) _ h

/-! ZoneShares$Rounder.reach(II)V -/
def gm_47 (x1 : Int) (x2 : Int) (s : gx_S) : Option (gx_S) :=
  if 0 ≤ x1 ∧ x1 < 18 then (
  if (-2147483648 ≤ (s.1 12 (x1).toNat) ∧ (s.1 12 (x1).toNat) ≤ 2147483647) then (
  if ¬ (s.1 12 (x1).toNat) = (-1) then (
    some s) else (
    if (-2147483648 ≤ (s.1 6 7) ∧ (s.1 6 7) ≤ 2147483647) then (
    if 18 ≤ (s.1 6 7) then (
      some s) else (
      if 0 ≤ ((gw1 s 12 (x1).toNat x2).1 6 7) ∧ ((gw1 s 12 (x1).toNat x2).1 6 7) < 18 then (
      some (gw1 (gw1 (gw1 s 12 (x1).toNat x2) 13 (((gw1 s 12 (x1).toNat x2).1 6 7)).toNat x1) 6 7 (((gw1 (gw1 s 12 (x1).toNat x2) 13 (((gw1 s 12 (x1).toNat x2).1 6 7)).toNat x1).1 6 7) + 1))) else none)) else none)) else none) else none
theorem gf_47 {x1 : Int} {yx1 : Int32} (e1 : yx1 = Int32.ofInt x1) {x2 : Int} {yx2 : Int32} (e2 : yx2 = Int32.ofInt x2) {s : gx_S} {σ : fx_S} (es : σ = gx s) {q : gx_S} (h : gm_47 x1 x2 s = some q) : fm_47 yx1 yx2 σ = some (gx q) := by
  unfold gm_47 at h
  unfold fm_47
  obtain ⟨z15, h⟩ := fx_gd h
  refine gb_bind (gl_ld es e1 ga_12 z15) ?_
  obtain ⟨z16, h⟩ := fx_gd h
  by_cases c17 : ¬ (s.1 12 (x1).toNat) = (-1)
  · rw [if_pos c17] at h
    refine gb_t ((gc_ne (gr (s.1 12 (x1).toNat)) kg_m1 z16 (by decide)).mpr c17) ?_
    have h := Option.some.inj h
    subst h
    exact gretv es
  · rw [if_neg c17] at h
    refine gb_f (fun q => c17 ((gc_ne (gr (s.1 12 (x1).toNat)) kg_m1 z16 (by decide)).mp q)) ?_
    obtain ⟨z18, h⟩ := fx_gd h
    by_cases c19 : 18 ≤ (s.1 6 7)
    · rw [if_pos c19] at h
      refine gb_t ((gc_le kg_18 (gf1 es 6 7) (by decide) z18).mpr c19) ?_
      have h := Option.some.inj h
      subst h
      exact gretv es
    · rw [if_neg c19] at h
      refine gb_f (fun q => c19 ((gc_le kg_18 (gf1 es 6 7) (by decide) z18).mp q)) ?_
      refine gb_bind (gl_st es e1 e2 ga_12 z15) ?_
      obtain ⟨z24, h⟩ := fx_gd h
      refine gb_bind (gl_st (rfl : _ = gx (gw1 s 12 (x1).toNat x2)) (gf1 (rfl : _ = gx (gw1 s 12 (x1).toNat x2)) 6 7) e1 ga_13 z24) ?_
      have h := Option.some.inj h
      subst h
      exact gretv (gx_w1 (rfl : _ = gx (gw1 (gw1 s 12 (x1).toNat x2) 13 (((gw1 s 12 (x1).toNat x2).1 6 7)).toNat x1)) (ga_add (gf1 (rfl : _ = gx (gw1 (gw1 s 12 (x1).toNat x2) 13 (((gw1 s 12 (x1).toNat x2).1 6 7)).toNat x1)) 6 7) kg_1))

/-! ZoneShares$Rounder.spreadRow(I)V -/
def gm_48_43 (k_2 : Int → Int → gx_S → Option (gx_S)) (x1 : Int) (x2 : Int) (s : gx_S) : Option (gx_S) :=
  k_2 x1 (x2 + 1) s
theorem gf_48_43 {kf_2 : Int32 → Int32 → fx_S → Option (fx_S)} {kg_2 : Int → Int → gx_S → Option (gx_S)} (hk_2 : ∀ (x1 : Int) (yx1 : Int32) (e1 : yx1 = Int32.ofInt x1) (x2 : Int) (yx2 : Int32) (e2 : yx2 = Int32.ofInt x2) (s : gx_S) (σ : fx_S) (es : σ = gx s) (q : gx_S), kg_2 x1 x2 s = some q → kf_2 yx1 yx2 σ = some (gx q)) (x1 : Int) (yx1 : Int32) (e1 : yx1 = Int32.ofInt x1) (x2 : Int) (yx2 : Int32) (e2 : yx2 = Int32.ofInt x2) (s : gx_S) (σ : fx_S) (es : σ = gx s) (q : gx_S) (h : gm_48_43 kg_2 x1 x2 s = some q) : fm_48_43 kf_2 yx1 yx2 σ = some (gx q) := by
  unfold gm_48_43 at h
  unfold fm_48_43
  exact hk_2 _ _ e1 _ _ (ga_add e2 kg_1) _ _ es _ h
def gm_48_2 : Nat → Int → Int → gx_S → Option (gx_S)
  | 0, _, _, _ => none
  | n + 1, x1, x2, s =>
    if (-2147483648 ≤ x2 ∧ x2 ≤ 2147483647) then (
    if 9 ≤ x2 then (
      some s) else (
      if 0 ≤ ((x1 * 9) + x2) ∧ ((x1 * 9) + x2) < 72 then (
      if (-2147483648 ≤ (s.1 7 (((x1 * 9) + x2)).toNat) ∧ (s.1 7 (((x1 * 9) + x2)).toNat) ≤ 2147483647) then (
      if ¬ (s.1 7 (((x1 * 9) + x2)).toNat) = 1 then (
        gm_48_43 (gm_48_2 n) x1 x2 s) else (
        if (-2147483648 ≤ (s.1 8 (((x1 * 9) + x2)).toNat) ∧ (s.1 8 (((x1 * 9) + x2)).toNat) ≤ 2147483647) then (
        if ¬ (s.1 8 (((x1 * 9) + x2)).toNat) = 0 then (
          gm_48_43 (gm_48_2 n) x1 x2 s) else (
          (gm_47 (8 + x2) x1 s).bind fun q13 =>
          gm_48_43 (gm_48_2 n) x1 x2 q13)) else none)) else none) else none)) else none
theorem gf_48_2 : ∀ (n : Nat) (x1 : Int) (yx1 : Int32) (e1 : yx1 = Int32.ofInt x1) (x2 : Int) (yx2 : Int32) (e2 : yx2 = Int32.ofInt x2) (s : gx_S) (σ : fx_S) (es : σ = gx s) (q : gx_S), gm_48_2 n x1 x2 s = some q → fm_48_2 n yx1 yx2 σ = some (gx q) := by
  intro n
  induction n with
  | zero =>
    intro x1 yx1 e1 x2 yx2 e2 s σ es q  h
    rw [gm_48_2] at h
    exact fx_no h
  | succ n ih =>
    intro x1 yx1 e1 x2 yx2 e2 s σ es q  h
    rw [gm_48_2] at h
    rw [fm_48_2]
    obtain ⟨z1, h⟩ := fx_gd h
    by_cases c2 : 9 ≤ x2
    · rw [if_pos c2] at h
      refine gb_t ((gc_le kg_9 e2 (by decide) z1).mpr c2) ?_
      have h := Option.some.inj h
      subst h
      exact gretv es
    · rw [if_neg c2] at h
      refine gb_f (fun q => c2 ((gc_le kg_9 e2 (by decide) z1).mp q)) ?_
      obtain ⟨z5, h⟩ := fx_gd h
      refine gb_bind (gl_ld es (ga_add (ga_mul e1 kg_9) e2) ga_7 z5) ?_
      obtain ⟨z6, h⟩ := fx_gd h
      by_cases c7 : ¬ (s.1 7 (((x1 * 9) + x2)).toNat) = 1
      · rw [if_pos c7] at h
        refine gb_t ((gc_ne (gr (s.1 7 (((x1 * 9) + x2)).toNat)) kg_1 z6 (by decide)).mpr c7) ?_
        exact gf_48_43 ih _ _ e1 _ _ e2 _ _ es _ h
      · rw [if_neg c7] at h
        refine gb_f (fun q => c7 ((gc_ne (gr (s.1 7 (((x1 * 9) + x2)).toNat)) kg_1 z6 (by decide)).mp q)) ?_
        refine gb_bind (gl_ld es (ga_add (ga_mul e1 kg_9) e2) ga_8 z5) ?_
        obtain ⟨z10, h⟩ := fx_gd h
        by_cases c11 : ¬ (s.1 8 (((x1 * 9) + x2)).toNat) = 0
        · rw [if_pos c11] at h
          refine gb_t ((gc_ne (gr (s.1 8 (((x1 * 9) + x2)).toNat)) kg_0 z10 (by decide)).mpr c11) ?_
          exact gf_48_43 ih _ _ e1 _ _ e2 _ _ es _ h
        · rw [if_neg c11] at h
          refine gb_f (fun q => c11 ((gc_ne (gr (s.1 8 (((x1 * 9) + x2)).toNat)) kg_0 z10 (by decide)).mp q)) ?_
          obtain ⟨q13, w12, h⟩ := fx_bd h
          refine gb_bind (gf_47 (ga_add kg_8 e2) e1 es w12) ?_
          exact gf_48_43 ih _ _ e1 _ _ e2 _ _ (rfl : _ = gx q13) _ h
def gm_48 (x1 : Int) (s : gx_S) : Option (gx_S) :=
  gm_48_2 100000 x1 0 s
theorem gf_48 {x1 : Int} {yx1 : Int32} (e1 : yx1 = Int32.ofInt x1) {s : gx_S} {σ : fx_S} (es : σ = gx s) {q : gx_S} (h : gm_48 x1 s = some q) : fm_48 yx1 σ = some (gx q) := by
  unfold gm_48 at h
  unfold fm_48
  exact gf_48_2 100000 _ _ e1 _ _ kg_0 _ _ es _ h

/-! ZoneShares$Rounder.spreadColumn(I)V -/
def gm_49_69 (k_27 : Int → Int → gx_S → Option (gx_S)) (x1 : Int) (x2 : Int) (s : gx_S) : Option (gx_S) :=
  k_27 x1 (x2 + 1) s
theorem gf_49_69 {kf_27 : Int32 → Int32 → fx_S → Option (fx_S)} {kg_27 : Int → Int → gx_S → Option (gx_S)} (hk_27 : ∀ (x1 : Int) (yx1 : Int32) (e1 : yx1 = Int32.ofInt x1) (x2 : Int) (yx2 : Int32) (e2 : yx2 = Int32.ofInt x2) (s : gx_S) (σ : fx_S) (es : σ = gx s) (q : gx_S), kg_27 x1 x2 s = some q → kf_27 yx1 yx2 σ = some (gx q)) (x1 : Int) (yx1 : Int32) (e1 : yx1 = Int32.ofInt x1) (x2 : Int) (yx2 : Int32) (e2 : yx2 = Int32.ofInt x2) (s : gx_S) (σ : fx_S) (es : σ = gx s) (q : gx_S) (h : gm_49_69 kg_27 x1 x2 s = some q) : fm_49_69 kf_27 yx1 yx2 σ = some (gx q) := by
  unfold gm_49_69 at h
  unfold fm_49_69
  exact hk_27 _ _ e1 _ _ (ga_add e2 kg_1) _ _ es _ h
def gm_49_27 : Nat → Int → Int → gx_S → Option (gx_S)
  | 0, _, _, _ => none
  | n + 1, x1, x2, s =>
    if (-2147483648 ≤ x2 ∧ x2 ≤ 2147483647) then (
    if 8 ≤ x2 then (
      some s) else (
      if 0 ≤ ((x2 * 9) + x1) ∧ ((x2 * 9) + x1) < 72 then (
      if (-2147483648 ≤ (s.1 7 (((x2 * 9) + x1)).toNat) ∧ (s.1 7 (((x2 * 9) + x1)).toNat) ≤ 2147483647) then (
      if ¬ (s.1 7 (((x2 * 9) + x1)).toNat) = 1 then (
        gm_49_69 (gm_49_27 n) x1 x2 s) else (
        if (-2147483648 ≤ (s.1 8 (((x2 * 9) + x1)).toNat) ∧ (s.1 8 (((x2 * 9) + x1)).toNat) ≤ 2147483647) then (
        if ¬ (s.1 8 (((x2 * 9) + x1)).toNat) = 1 then (
          gm_49_69 (gm_49_27 n) x1 x2 s) else (
          (gm_47 x2 (8 + x1) s).bind fun q13 =>
          gm_49_69 (gm_49_27 n) x1 x2 q13)) else none)) else none) else none)) else none
theorem gf_49_27 : ∀ (n : Nat) (x1 : Int) (yx1 : Int32) (e1 : yx1 = Int32.ofInt x1) (x2 : Int) (yx2 : Int32) (e2 : yx2 = Int32.ofInt x2) (s : gx_S) (σ : fx_S) (es : σ = gx s) (q : gx_S), gm_49_27 n x1 x2 s = some q → fm_49_27 n yx1 yx2 σ = some (gx q) := by
  intro n
  induction n with
  | zero =>
    intro x1 yx1 e1 x2 yx2 e2 s σ es q  h
    rw [gm_49_27] at h
    exact fx_no h
  | succ n ih =>
    intro x1 yx1 e1 x2 yx2 e2 s σ es q  h
    rw [gm_49_27] at h
    rw [fm_49_27]
    obtain ⟨z1, h⟩ := fx_gd h
    by_cases c2 : 8 ≤ x2
    · rw [if_pos c2] at h
      refine gb_t ((gc_le kg_8 e2 (by decide) z1).mpr c2) ?_
      have h := Option.some.inj h
      subst h
      exact gretv es
    · rw [if_neg c2] at h
      refine gb_f (fun q => c2 ((gc_le kg_8 e2 (by decide) z1).mp q)) ?_
      obtain ⟨z5, h⟩ := fx_gd h
      refine gb_bind (gl_ld es (ga_add (ga_mul e2 kg_9) e1) ga_7 z5) ?_
      obtain ⟨z6, h⟩ := fx_gd h
      by_cases c7 : ¬ (s.1 7 (((x2 * 9) + x1)).toNat) = 1
      · rw [if_pos c7] at h
        refine gb_t ((gc_ne (gr (s.1 7 (((x2 * 9) + x1)).toNat)) kg_1 z6 (by decide)).mpr c7) ?_
        exact gf_49_69 ih _ _ e1 _ _ e2 _ _ es _ h
      · rw [if_neg c7] at h
        refine gb_f (fun q => c7 ((gc_ne (gr (s.1 7 (((x2 * 9) + x1)).toNat)) kg_1 z6 (by decide)).mp q)) ?_
        refine gb_bind (gl_ld es (ga_add (ga_mul e2 kg_9) e1) ga_8 z5) ?_
        obtain ⟨z10, h⟩ := fx_gd h
        by_cases c11 : ¬ (s.1 8 (((x2 * 9) + x1)).toNat) = 1
        · rw [if_pos c11] at h
          refine gb_t ((gc_ne (gr (s.1 8 (((x2 * 9) + x1)).toNat)) kg_1 z10 (by decide)).mpr c11) ?_
          exact gf_49_69 ih _ _ e1 _ _ e2 _ _ es _ h
        · rw [if_neg c11] at h
          refine gb_f (fun q => c11 ((gc_ne (gr (s.1 8 (((x2 * 9) + x1)).toNat)) kg_1 z10 (by decide)).mp q)) ?_
          obtain ⟨q13, w12, h⟩ := fx_bd h
          refine gb_bind (gf_47 e2 (ga_add kg_8 e1) es w12) ?_
          exact gf_49_69 ih _ _ e1 _ _ e2 _ _ (rfl : _ = gx q13) _ h
def gm_49_25 (x1 : Int) (s : gx_S) : Option (gx_S) :=
  gm_49_27 100000 x1 0 s
theorem gf_49_25 (x1 : Int) (yx1 : Int32) (e1 : yx1 = Int32.ofInt x1) (s : gx_S) (σ : fx_S) (es : σ = gx s) (q : gx_S) (h : gm_49_25 x1 s = some q) : fm_49_25 yx1 σ = some (gx q) := by
  unfold gm_49_25 at h
  unfold fm_49_25
  exact gf_49_27 100000 _ _ e1 _ _ kg_0 _ _ es _ h
def gm_49 (x1 : Int) (s : gx_S) : Option (gx_S) :=
  if 0 ≤ x1 ∧ x1 < 9 then (
  if (-2147483648 ≤ (s.1 11 (x1).toNat) ∧ (s.1 11 (x1).toNat) ≤ 2147483647) then (
  if (-2147483648 ≤ (s.1 10 (x1).toNat) ∧ (s.1 10 (x1).toNat) ≤ 2147483647) then (
  if (s.1 10 (x1).toNat) ≤ (s.1 11 (x1).toNat) then (
    gm_49_25 x1 s) else (
    (gm_47 17 (8 + x1) s).bind fun q46 =>
    gm_49_25 x1 q46)) else none) else none) else none
theorem gf_49 {x1 : Int} {yx1 : Int32} (e1 : yx1 = Int32.ofInt x1) {s : gx_S} {σ : fx_S} (es : σ = gx s) {q : gx_S} (h : gm_49 x1 s = some q) : fm_49 yx1 σ = some (gx q) := by
  unfold gm_49 at h
  unfold fm_49
  obtain ⟨z39, h⟩ := fx_gd h
  refine gb_bind (gl_ld es e1 ga_11 z39) ?_
  refine gb_bind (gl_ld es e1 ga_10 z39) ?_
  obtain ⟨z42, h⟩ := fx_gd h
  obtain ⟨z43, h⟩ := fx_gd h
  by_cases c44 : (s.1 10 (x1).toNat) ≤ (s.1 11 (x1).toNat)
  · rw [if_pos c44] at h
    refine gb_t ((gc_le (gr (s.1 10 (x1).toNat)) (gr (s.1 11 (x1).toNat)) z43 z42).mpr c44) ?_
    exact gf_49_25 _ _ e1 _ _ es _ h
  · rw [if_neg c44] at h
    refine gb_f (fun q => c44 ((gc_le (gr (s.1 10 (x1).toNat)) (gr (s.1 11 (x1).toNat)) z43 z42).mp q)) ?_
    obtain ⟨q46, w45, h⟩ := fx_bd h
    refine gb_bind (gf_47 kg_17 (ga_add kg_8 e1) es w45) ?_
    exact gf_49_25 _ _ e1 _ _ (rfl : _ = gx q46) _ h

/-! ZoneShares$Rounder.spreadHub()V -/
def gm_50_33 (k_2 : Int → gx_S → Option (gx_S)) (x1 : Int) (s : gx_S) : Option (gx_S) :=
  k_2 (x1 + 1) s
theorem gf_50_33 {kf_2 : Int32 → fx_S → Option (fx_S)} {kg_2 : Int → gx_S → Option (gx_S)} (hk_2 : ∀ (x1 : Int) (yx1 : Int32) (e1 : yx1 = Int32.ofInt x1) (s : gx_S) (σ : fx_S) (es : σ = gx s) (q : gx_S), kg_2 x1 s = some q → kf_2 yx1 σ = some (gx q)) (x1 : Int) (yx1 : Int32) (e1 : yx1 = Int32.ofInt x1) (s : gx_S) (σ : fx_S) (es : σ = gx s) (q : gx_S) (h : gm_50_33 kg_2 x1 s = some q) : fm_50_33 kf_2 yx1 σ = some (gx q) := by
  unfold gm_50_33 at h
  unfold fm_50_33
  exact hk_2 _ _ (ga_add e1 kg_1) _ _ es _ h
def gm_50_2 : Nat → Int → gx_S → Option (gx_S)
  | 0, _, _ => none
  | n + 1, x1, s =>
    if (-2147483648 ≤ x1 ∧ x1 ≤ 2147483647) then (
    if 9 ≤ x1 then (
      some s) else (
      if 0 ≤ x1 ∧ x1 < 9 then (
      if (-2147483648 ≤ (s.1 11 (x1).toNat) ∧ (s.1 11 (x1).toNat) ≤ 2147483647) then (
      if (-2147483648 ≤ (s.1 9 (x1).toNat) ∧ (s.1 9 (x1).toNat) ≤ 2147483647) then (
      if (s.1 11 (x1).toNat) ≤ (s.1 9 (x1).toNat) then (
        gm_50_33 (gm_50_2 n) x1 s) else (
        (gm_47 (8 + x1) 17 s).bind fun q12 =>
        gm_50_33 (gm_50_2 n) x1 q12)) else none) else none) else none)) else none
theorem gf_50_2 : ∀ (n : Nat) (x1 : Int) (yx1 : Int32) (e1 : yx1 = Int32.ofInt x1) (s : gx_S) (σ : fx_S) (es : σ = gx s) (q : gx_S), gm_50_2 n x1 s = some q → fm_50_2 n yx1 σ = some (gx q) := by
  intro n
  induction n with
  | zero =>
    intro x1 yx1 e1 s σ es q  h
    rw [gm_50_2] at h
    exact fx_no h
  | succ n ih =>
    intro x1 yx1 e1 s σ es q  h
    rw [gm_50_2] at h
    rw [fm_50_2]
    obtain ⟨z1, h⟩ := fx_gd h
    by_cases c2 : 9 ≤ x1
    · rw [if_pos c2] at h
      refine gb_t ((gc_le kg_9 e1 (by decide) z1).mpr c2) ?_
      have h := Option.some.inj h
      subst h
      exact gretv es
    · rw [if_neg c2] at h
      refine gb_f (fun q => c2 ((gc_le kg_9 e1 (by decide) z1).mp q)) ?_
      obtain ⟨z5, h⟩ := fx_gd h
      refine gb_bind (gl_ld es e1 ga_11 z5) ?_
      refine gb_bind (gl_ld es e1 ga_9 z5) ?_
      obtain ⟨z8, h⟩ := fx_gd h
      obtain ⟨z9, h⟩ := fx_gd h
      by_cases c10 : (s.1 11 (x1).toNat) ≤ (s.1 9 (x1).toNat)
      · rw [if_pos c10] at h
        refine gb_t ((gc_le (gr (s.1 11 (x1).toNat)) (gr (s.1 9 (x1).toNat)) z8 z9).mpr c10) ?_
        exact gf_50_33 ih _ _ e1 _ _ es _ h
      · rw [if_neg c10] at h
        refine gb_f (fun q => c10 ((gc_le (gr (s.1 11 (x1).toNat)) (gr (s.1 9 (x1).toNat)) z8 z9).mp q)) ?_
        obtain ⟨q12, w11, h⟩ := fx_bd h
        refine gb_bind (gf_47 (ga_add kg_8 e1) kg_17 es w11) ?_
        exact gf_50_33 ih _ _ e1 _ _ (rfl : _ = gx q12) _ h
def gm_50 (s : gx_S) : Option (gx_S) :=
  gm_50_2 100000 0 s
theorem gf_50 {s : gx_S} {σ : fx_S} (es : σ = gx s) {q : gx_S} (h : gm_50 s = some q) : fm_50 σ = some (gx q) := by
  unfold gm_50 at h
  unfold fm_50
  exact gf_50_2 100000 _ _ kg_0 _ _ es _ h

/-! ZoneShares$Rounder.turnStep(II)V -/
def gm_52 (x1 : Int) (x2 : Int) (s : gx_S) : Option (gx_S) :=
  if (-2147483648 ≤ x1 ∧ x1 ≤ 2147483647) then (
  if 8 ≤ x1 then (
    if (-2147483648 ≤ x2 ∧ x2 ≤ 2147483647) then (
    if 8 ≤ x2 then (
      if ¬ x2 = 17 then (
        if 0 ≤ (x2 - 8) ∧ (x2 - 8) < 9 then (
        some (gw1 s 11 ((x2 - 8)).toNat ((s.1 11 ((x2 - 8)).toNat) - 1))) else none) else (
        if 0 ≤ (x1 - 8) ∧ (x1 - 8) < 9 then (
        some (gw1 s 11 ((x1 - 8)).toNat ((s.1 11 ((x1 - 8)).toNat) + 1))) else none)) else (
      if 0 ≤ (((x2 * 9) + x1) - 8) ∧ (((x2 * 9) + x1) - 8) < 72 then (
      some (gw1 s 8 ((((x2 * 9) + x1) - 8)).toNat 0)) else none)) else none) else (
    if 0 ≤ (((x1 * 9) + x2) - 8) ∧ (((x1 * 9) + x2) - 8) < 72 then (
    some (gw1 s 8 ((((x1 * 9) + x2) - 8)).toNat 1)) else none)) else none
theorem gf_52 {x1 : Int} {yx1 : Int32} (e1 : yx1 = Int32.ofInt x1) {x2 : Int} {yx2 : Int32} (e2 : yx2 = Int32.ofInt x2) {s : gx_S} {σ : fx_S} (es : σ = gx s) {q : gx_S} (h : gm_52 x1 x2 s = some q) : fm_52 yx1 yx2 σ = some (gx q) := by
  unfold gm_52 at h
  unfold fm_52
  obtain ⟨z22, h⟩ := fx_gd h
  by_cases c23 : 8 ≤ x1
  · rw [if_pos c23] at h
    refine gb_t ((gc_le kg_8 e1 (by decide) z22).mpr c23) ?_
    obtain ⟨z24, h⟩ := fx_gd h
    by_cases c25 : 8 ≤ x2
    · rw [if_pos c25] at h
      refine gb_t ((gc_le kg_8 e2 (by decide) z24).mpr c25) ?_
      by_cases c26 : ¬ x2 = 17
      · rw [if_pos c26] at h
        refine gb_t ((gc_ne e2 kg_17 z24 (by decide)).mpr c26) ?_
        obtain ⟨z29, h⟩ := fx_gd h
        refine gb_bind (gl_ld es (ga_sub e2 kg_8) ga_11 z29) ?_
        refine gb_bind (gl_st es (ga_sub e2 kg_8) (ga_sub (gr (s.1 11 ((x2 - 8)).toNat)) kg_1) ga_11 z29) ?_
        have h := Option.some.inj h
        subst h
        exact gretv (rfl : _ = gx (gw1 s 11 ((x2 - 8)).toNat ((s.1 11 ((x2 - 8)).toNat) - 1)))
      · rw [if_neg c26] at h
        refine gb_f (fun q => c26 ((gc_ne e2 kg_17 z24 (by decide)).mp q)) ?_
        obtain ⟨z34, h⟩ := fx_gd h
        refine gb_bind (gl_ld es (ga_sub e1 kg_8) ga_11 z34) ?_
        refine gb_bind (gl_st es (ga_sub e1 kg_8) (ga_add (gr (s.1 11 ((x1 - 8)).toNat)) kg_1) ga_11 z34) ?_
        have h := Option.some.inj h
        subst h
        exact gretv (rfl : _ = gx (gw1 s 11 ((x1 - 8)).toNat ((s.1 11 ((x1 - 8)).toNat) + 1)))
    · rw [if_neg c25] at h
      refine gb_f (fun q => c25 ((gc_le kg_8 e2 (by decide) z24).mp q)) ?_
      obtain ⟨z39, h⟩ := fx_gd h
      refine gb_bind (gl_st es (ga_sub (ga_add (ga_mul e2 kg_9) e1) kg_8) kg_0 ga_8 z39) ?_
      have h := Option.some.inj h
      subst h
      exact gretv (rfl : _ = gx (gw1 s 8 ((((x2 * 9) + x1) - 8)).toNat 0))
  · rw [if_neg c23] at h
    refine gb_f (fun q => c23 ((gc_le kg_8 e1 (by decide) z22).mp q)) ?_
    obtain ⟨z42, h⟩ := fx_gd h
    refine gb_bind (gl_st es (ga_sub (ga_add (ga_mul e1 kg_9) e2) kg_8) kg_1 ga_8 z42) ?_
    have h := Option.some.inj h
    subst h
    exact gretv (rfl : _ = gx (gw1 s 8 ((((x1 * 9) + x2) - 8)).toNat 1))

/-! ZoneShares$State.copy(LZoneShares$State;)V -/
def gm_54 (x0 : Nat) (x1 : Nat) (s : gx_S) : Option (gx_S) :=
  if fx_oc x0 6 = true ∧ fx_oc x1 6 = true then (
  some (gw1 (gw1 (gw1 (gw1 (gw1 (gcp (gcp (gcp (gcp s (x1 + 1) 0 (x0 + 1) 0 288) (x1 + 2) 0 (x0 + 2) 0 27) (x1 + 3) 0 (x0 + 3) 0 12) (x1 + 4) 0 (x0 + 4) 0 8) x0 4 ((gcp (gcp (gcp (gcp s (x1 + 1) 0 (x0 + 1) 0 288) (x1 + 2) 0 (x0 + 2) 0 27) (x1 + 3) 0 (x0 + 3) 0 12) (x1 + 4) 0 (x0 + 4) 0 8).1 x1 4)) x0 5 ((gw1 (gcp (gcp (gcp (gcp s (x1 + 1) 0 (x0 + 1) 0 288) (x1 + 2) 0 (x0 + 2) 0 27) (x1 + 3) 0 (x0 + 3) 0 12) (x1 + 4) 0 (x0 + 4) 0 8) x0 4 ((gcp (gcp (gcp (gcp s (x1 + 1) 0 (x0 + 1) 0 288) (x1 + 2) 0 (x0 + 2) 0 27) (x1 + 3) 0 (x0 + 3) 0 12) (x1 + 4) 0 (x0 + 4) 0 8).1 x1 4)).1 x1 5)) x0 6 ((gw1 (gw1 (gcp (gcp (gcp (gcp s (x1 + 1) 0 (x0 + 1) 0 288) (x1 + 2) 0 (x0 + 2) 0 27) (x1 + 3) 0 (x0 + 3) 0 12) (x1 + 4) 0 (x0 + 4) 0 8) x0 4 ((gcp (gcp (gcp (gcp s (x1 + 1) 0 (x0 + 1) 0 288) (x1 + 2) 0 (x0 + 2) 0 27) (x1 + 3) 0 (x0 + 3) 0 12) (x1 + 4) 0 (x0 + 4) 0 8).1 x1 4)) x0 5 ((gw1 (gcp (gcp (gcp (gcp s (x1 + 1) 0 (x0 + 1) 0 288) (x1 + 2) 0 (x0 + 2) 0 27) (x1 + 3) 0 (x0 + 3) 0 12) (x1 + 4) 0 (x0 + 4) 0 8) x0 4 ((gcp (gcp (gcp (gcp s (x1 + 1) 0 (x0 + 1) 0 288) (x1 + 2) 0 (x0 + 2) 0 27) (x1 + 3) 0 (x0 + 3) 0 12) (x1 + 4) 0 (x0 + 4) 0 8).1 x1 4)).1 x1 5)).1 x1 6)) x0 7 ((gw1 (gw1 (gw1 (gcp (gcp (gcp (gcp s (x1 + 1) 0 (x0 + 1) 0 288) (x1 + 2) 0 (x0 + 2) 0 27) (x1 + 3) 0 (x0 + 3) 0 12) (x1 + 4) 0 (x0 + 4) 0 8) x0 4 ((gcp (gcp (gcp (gcp s (x1 + 1) 0 (x0 + 1) 0 288) (x1 + 2) 0 (x0 + 2) 0 27) (x1 + 3) 0 (x0 + 3) 0 12) (x1 + 4) 0 (x0 + 4) 0 8).1 x1 4)) x0 5 ((gw1 (gcp (gcp (gcp (gcp s (x1 + 1) 0 (x0 + 1) 0 288) (x1 + 2) 0 (x0 + 2) 0 27) (x1 + 3) 0 (x0 + 3) 0 12) (x1 + 4) 0 (x0 + 4) 0 8) x0 4 ((gcp (gcp (gcp (gcp s (x1 + 1) 0 (x0 + 1) 0 288) (x1 + 2) 0 (x0 + 2) 0 27) (x1 + 3) 0 (x0 + 3) 0 12) (x1 + 4) 0 (x0 + 4) 0 8).1 x1 4)).1 x1 5)) x0 6 ((gw1 (gw1 (gcp (gcp (gcp (gcp s (x1 + 1) 0 (x0 + 1) 0 288) (x1 + 2) 0 (x0 + 2) 0 27) (x1 + 3) 0 (x0 + 3) 0 12) (x1 + 4) 0 (x0 + 4) 0 8) x0 4 ((gcp (gcp (gcp (gcp s (x1 + 1) 0 (x0 + 1) 0 288) (x1 + 2) 0 (x0 + 2) 0 27) (x1 + 3) 0 (x0 + 3) 0 12) (x1 + 4) 0 (x0 + 4) 0 8).1 x1 4)) x0 5 ((gw1 (gcp (gcp (gcp (gcp s (x1 + 1) 0 (x0 + 1) 0 288) (x1 + 2) 0 (x0 + 2) 0 27) (x1 + 3) 0 (x0 + 3) 0 12) (x1 + 4) 0 (x0 + 4) 0 8) x0 4 ((gcp (gcp (gcp (gcp s (x1 + 1) 0 (x0 + 1) 0 288) (x1 + 2) 0 (x0 + 2) 0 27) (x1 + 3) 0 (x0 + 3) 0 12) (x1 + 4) 0 (x0 + 4) 0 8).1 x1 4)).1 x1 5)).1 x1 6)).1 x1 7)) x0 8 ((gw1 (gw1 (gw1 (gw1 (gcp (gcp (gcp (gcp s (x1 + 1) 0 (x0 + 1) 0 288) (x1 + 2) 0 (x0 + 2) 0 27) (x1 + 3) 0 (x0 + 3) 0 12) (x1 + 4) 0 (x0 + 4) 0 8) x0 4 ((gcp (gcp (gcp (gcp s (x1 + 1) 0 (x0 + 1) 0 288) (x1 + 2) 0 (x0 + 2) 0 27) (x1 + 3) 0 (x0 + 3) 0 12) (x1 + 4) 0 (x0 + 4) 0 8).1 x1 4)) x0 5 ((gw1 (gcp (gcp (gcp (gcp s (x1 + 1) 0 (x0 + 1) 0 288) (x1 + 2) 0 (x0 + 2) 0 27) (x1 + 3) 0 (x0 + 3) 0 12) (x1 + 4) 0 (x0 + 4) 0 8) x0 4 ((gcp (gcp (gcp (gcp s (x1 + 1) 0 (x0 + 1) 0 288) (x1 + 2) 0 (x0 + 2) 0 27) (x1 + 3) 0 (x0 + 3) 0 12) (x1 + 4) 0 (x0 + 4) 0 8).1 x1 4)).1 x1 5)) x0 6 ((gw1 (gw1 (gcp (gcp (gcp (gcp s (x1 + 1) 0 (x0 + 1) 0 288) (x1 + 2) 0 (x0 + 2) 0 27) (x1 + 3) 0 (x0 + 3) 0 12) (x1 + 4) 0 (x0 + 4) 0 8) x0 4 ((gcp (gcp (gcp (gcp s (x1 + 1) 0 (x0 + 1) 0 288) (x1 + 2) 0 (x0 + 2) 0 27) (x1 + 3) 0 (x0 + 3) 0 12) (x1 + 4) 0 (x0 + 4) 0 8).1 x1 4)) x0 5 ((gw1 (gcp (gcp (gcp (gcp s (x1 + 1) 0 (x0 + 1) 0 288) (x1 + 2) 0 (x0 + 2) 0 27) (x1 + 3) 0 (x0 + 3) 0 12) (x1 + 4) 0 (x0 + 4) 0 8) x0 4 ((gcp (gcp (gcp (gcp s (x1 + 1) 0 (x0 + 1) 0 288) (x1 + 2) 0 (x0 + 2) 0 27) (x1 + 3) 0 (x0 + 3) 0 12) (x1 + 4) 0 (x0 + 4) 0 8).1 x1 4)).1 x1 5)).1 x1 6)) x0 7 ((gw1 (gw1 (gw1 (gcp (gcp (gcp (gcp s (x1 + 1) 0 (x0 + 1) 0 288) (x1 + 2) 0 (x0 + 2) 0 27) (x1 + 3) 0 (x0 + 3) 0 12) (x1 + 4) 0 (x0 + 4) 0 8) x0 4 ((gcp (gcp (gcp (gcp s (x1 + 1) 0 (x0 + 1) 0 288) (x1 + 2) 0 (x0 + 2) 0 27) (x1 + 3) 0 (x0 + 3) 0 12) (x1 + 4) 0 (x0 + 4) 0 8).1 x1 4)) x0 5 ((gw1 (gcp (gcp (gcp (gcp s (x1 + 1) 0 (x0 + 1) 0 288) (x1 + 2) 0 (x0 + 2) 0 27) (x1 + 3) 0 (x0 + 3) 0 12) (x1 + 4) 0 (x0 + 4) 0 8) x0 4 ((gcp (gcp (gcp (gcp s (x1 + 1) 0 (x0 + 1) 0 288) (x1 + 2) 0 (x0 + 2) 0 27) (x1 + 3) 0 (x0 + 3) 0 12) (x1 + 4) 0 (x0 + 4) 0 8).1 x1 4)).1 x1 5)) x0 6 ((gw1 (gw1 (gcp (gcp (gcp (gcp s (x1 + 1) 0 (x0 + 1) 0 288) (x1 + 2) 0 (x0 + 2) 0 27) (x1 + 3) 0 (x0 + 3) 0 12) (x1 + 4) 0 (x0 + 4) 0 8) x0 4 ((gcp (gcp (gcp (gcp s (x1 + 1) 0 (x0 + 1) 0 288) (x1 + 2) 0 (x0 + 2) 0 27) (x1 + 3) 0 (x0 + 3) 0 12) (x1 + 4) 0 (x0 + 4) 0 8).1 x1 4)) x0 5 ((gw1 (gcp (gcp (gcp (gcp s (x1 + 1) 0 (x0 + 1) 0 288) (x1 + 2) 0 (x0 + 2) 0 27) (x1 + 3) 0 (x0 + 3) 0 12) (x1 + 4) 0 (x0 + 4) 0 8) x0 4 ((gcp (gcp (gcp (gcp s (x1 + 1) 0 (x0 + 1) 0 288) (x1 + 2) 0 (x0 + 2) 0 27) (x1 + 3) 0 (x0 + 3) 0 12) (x1 + 4) 0 (x0 + 4) 0 8).1 x1 4)).1 x1 5)).1 x1 6)).1 x1 7)).1 x1 8))) else none
theorem gf_54 {x0 : Nat} {x1 : Nat} {s : gx_S} {σ : fx_S} (es : σ = gx s) {q : gx_S} (h : gm_54 x0 x1 s = some q) : fm_54 x0 x1 σ = some (gx q) := by
  unfold gm_54 at h
  unfold fm_54
  obtain ⟨gg, h⟩ := fx_gd h
  refine gb_t gg ?_
  obtain ⟨g0, g1⟩ := gg
  refine gb_bind (gl_cpy es kg_0 kg_0 kg_288 (ga_6_0 g1) (ga_6_0 g0) (by decide)) ?_
  refine gb_bind (gl_cpy (rfl : _ = gx (gcp s (x1 + 1) 0 (x0 + 1) 0 288)) kg_0 kg_0 kg_27 (ga_6_1 g1) (ga_6_1 g0) (by decide)) ?_
  refine gb_bind (gl_cpy (rfl : _ = gx (gcp (gcp s (x1 + 1) 0 (x0 + 1) 0 288) (x1 + 2) 0 (x0 + 2) 0 27)) kg_0 kg_0 kg_12 (ga_6_2 g1) (ga_6_2 g0) (by decide)) ?_
  refine gb_bind (gl_cpy (rfl : _ = gx (gcp (gcp (gcp s (x1 + 1) 0 (x0 + 1) 0 288) (x1 + 2) 0 (x0 + 2) 0 27) (x1 + 3) 0 (x0 + 3) 0 12)) kg_0 kg_0 kg_8 (ga_6_3 g1) (ga_6_3 g0) (by decide)) ?_
  have h := Option.some.inj h
  subst h
  exact gretv (gx_w1 (gx_w1 (gx_w1 (gx_w1 (gx_w1 (rfl : _ = gx (gcp (gcp (gcp (gcp s (x1 + 1) 0 (x0 + 1) 0 288) (x1 + 2) 0 (x0 + 2) 0 27) (x1 + 3) 0 (x0 + 3) 0 12) (x1 + 4) 0 (x0 + 4) 0 8)) (gf1 (rfl : _ = gx (gcp (gcp (gcp (gcp s (x1 + 1) 0 (x0 + 1) 0 288) (x1 + 2) 0 (x0 + 2) 0 27) (x1 + 3) 0 (x0 + 3) 0 12) (x1 + 4) 0 (x0 + 4) 0 8)) x1 4)) (gf1 (gx_w1 (rfl : _ = gx (gcp (gcp (gcp (gcp s (x1 + 1) 0 (x0 + 1) 0 288) (x1 + 2) 0 (x0 + 2) 0 27) (x1 + 3) 0 (x0 + 3) 0 12) (x1 + 4) 0 (x0 + 4) 0 8)) (gf1 (rfl : _ = gx (gcp (gcp (gcp (gcp s (x1 + 1) 0 (x0 + 1) 0 288) (x1 + 2) 0 (x0 + 2) 0 27) (x1 + 3) 0 (x0 + 3) 0 12) (x1 + 4) 0 (x0 + 4) 0 8)) x1 4)) x1 5)) (gf1 (gx_w1 (gx_w1 (rfl : _ = gx (gcp (gcp (gcp (gcp s (x1 + 1) 0 (x0 + 1) 0 288) (x1 + 2) 0 (x0 + 2) 0 27) (x1 + 3) 0 (x0 + 3) 0 12) (x1 + 4) 0 (x0 + 4) 0 8)) (gf1 (rfl : _ = gx (gcp (gcp (gcp (gcp s (x1 + 1) 0 (x0 + 1) 0 288) (x1 + 2) 0 (x0 + 2) 0 27) (x1 + 3) 0 (x0 + 3) 0 12) (x1 + 4) 0 (x0 + 4) 0 8)) x1 4)) (gf1 (gx_w1 (rfl : _ = gx (gcp (gcp (gcp (gcp s (x1 + 1) 0 (x0 + 1) 0 288) (x1 + 2) 0 (x0 + 2) 0 27) (x1 + 3) 0 (x0 + 3) 0 12) (x1 + 4) 0 (x0 + 4) 0 8)) (gf1 (rfl : _ = gx (gcp (gcp (gcp (gcp s (x1 + 1) 0 (x0 + 1) 0 288) (x1 + 2) 0 (x0 + 2) 0 27) (x1 + 3) 0 (x0 + 3) 0 12) (x1 + 4) 0 (x0 + 4) 0 8)) x1 4)) x1 5)) x1 6)) (gf1 (gx_w1 (gx_w1 (gx_w1 (rfl : _ = gx (gcp (gcp (gcp (gcp s (x1 + 1) 0 (x0 + 1) 0 288) (x1 + 2) 0 (x0 + 2) 0 27) (x1 + 3) 0 (x0 + 3) 0 12) (x1 + 4) 0 (x0 + 4) 0 8)) (gf1 (rfl : _ = gx (gcp (gcp (gcp (gcp s (x1 + 1) 0 (x0 + 1) 0 288) (x1 + 2) 0 (x0 + 2) 0 27) (x1 + 3) 0 (x0 + 3) 0 12) (x1 + 4) 0 (x0 + 4) 0 8)) x1 4)) (gf1 (gx_w1 (rfl : _ = gx (gcp (gcp (gcp (gcp s (x1 + 1) 0 (x0 + 1) 0 288) (x1 + 2) 0 (x0 + 2) 0 27) (x1 + 3) 0 (x0 + 3) 0 12) (x1 + 4) 0 (x0 + 4) 0 8)) (gf1 (rfl : _ = gx (gcp (gcp (gcp (gcp s (x1 + 1) 0 (x0 + 1) 0 288) (x1 + 2) 0 (x0 + 2) 0 27) (x1 + 3) 0 (x0 + 3) 0 12) (x1 + 4) 0 (x0 + 4) 0 8)) x1 4)) x1 5)) (gf1 (gx_w1 (gx_w1 (rfl : _ = gx (gcp (gcp (gcp (gcp s (x1 + 1) 0 (x0 + 1) 0 288) (x1 + 2) 0 (x0 + 2) 0 27) (x1 + 3) 0 (x0 + 3) 0 12) (x1 + 4) 0 (x0 + 4) 0 8)) (gf1 (rfl : _ = gx (gcp (gcp (gcp (gcp s (x1 + 1) 0 (x0 + 1) 0 288) (x1 + 2) 0 (x0 + 2) 0 27) (x1 + 3) 0 (x0 + 3) 0 12) (x1 + 4) 0 (x0 + 4) 0 8)) x1 4)) (gf1 (gx_w1 (rfl : _ = gx (gcp (gcp (gcp (gcp s (x1 + 1) 0 (x0 + 1) 0 288) (x1 + 2) 0 (x0 + 2) 0 27) (x1 + 3) 0 (x0 + 3) 0 12) (x1 + 4) 0 (x0 + 4) 0 8)) (gf1 (rfl : _ = gx (gcp (gcp (gcp (gcp s (x1 + 1) 0 (x0 + 1) 0 288) (x1 + 2) 0 (x0 + 2) 0 27) (x1 + 3) 0 (x0 + 3) 0 12) (x1 + 4) 0 (x0 + 4) 0 8)) x1 4)) x1 5)) x1 6)) x1 7)) (gf1 (gx_w1 (gx_w1 (gx_w1 (gx_w1 (rfl : _ = gx (gcp (gcp (gcp (gcp s (x1 + 1) 0 (x0 + 1) 0 288) (x1 + 2) 0 (x0 + 2) 0 27) (x1 + 3) 0 (x0 + 3) 0 12) (x1 + 4) 0 (x0 + 4) 0 8)) (gf1 (rfl : _ = gx (gcp (gcp (gcp (gcp s (x1 + 1) 0 (x0 + 1) 0 288) (x1 + 2) 0 (x0 + 2) 0 27) (x1 + 3) 0 (x0 + 3) 0 12) (x1 + 4) 0 (x0 + 4) 0 8)) x1 4)) (gf1 (gx_w1 (rfl : _ = gx (gcp (gcp (gcp (gcp s (x1 + 1) 0 (x0 + 1) 0 288) (x1 + 2) 0 (x0 + 2) 0 27) (x1 + 3) 0 (x0 + 3) 0 12) (x1 + 4) 0 (x0 + 4) 0 8)) (gf1 (rfl : _ = gx (gcp (gcp (gcp (gcp s (x1 + 1) 0 (x0 + 1) 0 288) (x1 + 2) 0 (x0 + 2) 0 27) (x1 + 3) 0 (x0 + 3) 0 12) (x1 + 4) 0 (x0 + 4) 0 8)) x1 4)) x1 5)) (gf1 (gx_w1 (gx_w1 (rfl : _ = gx (gcp (gcp (gcp (gcp s (x1 + 1) 0 (x0 + 1) 0 288) (x1 + 2) 0 (x0 + 2) 0 27) (x1 + 3) 0 (x0 + 3) 0 12) (x1 + 4) 0 (x0 + 4) 0 8)) (gf1 (rfl : _ = gx (gcp (gcp (gcp (gcp s (x1 + 1) 0 (x0 + 1) 0 288) (x1 + 2) 0 (x0 + 2) 0 27) (x1 + 3) 0 (x0 + 3) 0 12) (x1 + 4) 0 (x0 + 4) 0 8)) x1 4)) (gf1 (gx_w1 (rfl : _ = gx (gcp (gcp (gcp (gcp s (x1 + 1) 0 (x0 + 1) 0 288) (x1 + 2) 0 (x0 + 2) 0 27) (x1 + 3) 0 (x0 + 3) 0 12) (x1 + 4) 0 (x0 + 4) 0 8)) (gf1 (rfl : _ = gx (gcp (gcp (gcp (gcp s (x1 + 1) 0 (x0 + 1) 0 288) (x1 + 2) 0 (x0 + 2) 0 27) (x1 + 3) 0 (x0 + 3) 0 12) (x1 + 4) 0 (x0 + 4) 0 8)) x1 4)) x1 5)) x1 6)) (gf1 (gx_w1 (gx_w1 (gx_w1 (rfl : _ = gx (gcp (gcp (gcp (gcp s (x1 + 1) 0 (x0 + 1) 0 288) (x1 + 2) 0 (x0 + 2) 0 27) (x1 + 3) 0 (x0 + 3) 0 12) (x1 + 4) 0 (x0 + 4) 0 8)) (gf1 (rfl : _ = gx (gcp (gcp (gcp (gcp s (x1 + 1) 0 (x0 + 1) 0 288) (x1 + 2) 0 (x0 + 2) 0 27) (x1 + 3) 0 (x0 + 3) 0 12) (x1 + 4) 0 (x0 + 4) 0 8)) x1 4)) (gf1 (gx_w1 (rfl : _ = gx (gcp (gcp (gcp (gcp s (x1 + 1) 0 (x0 + 1) 0 288) (x1 + 2) 0 (x0 + 2) 0 27) (x1 + 3) 0 (x0 + 3) 0 12) (x1 + 4) 0 (x0 + 4) 0 8)) (gf1 (rfl : _ = gx (gcp (gcp (gcp (gcp s (x1 + 1) 0 (x0 + 1) 0 288) (x1 + 2) 0 (x0 + 2) 0 27) (x1 + 3) 0 (x0 + 3) 0 12) (x1 + 4) 0 (x0 + 4) 0 8)) x1 4)) x1 5)) (gf1 (gx_w1 (gx_w1 (rfl : _ = gx (gcp (gcp (gcp (gcp s (x1 + 1) 0 (x0 + 1) 0 288) (x1 + 2) 0 (x0 + 2) 0 27) (x1 + 3) 0 (x0 + 3) 0 12) (x1 + 4) 0 (x0 + 4) 0 8)) (gf1 (rfl : _ = gx (gcp (gcp (gcp (gcp s (x1 + 1) 0 (x0 + 1) 0 288) (x1 + 2) 0 (x0 + 2) 0 27) (x1 + 3) 0 (x0 + 3) 0 12) (x1 + 4) 0 (x0 + 4) 0 8)) x1 4)) (gf1 (gx_w1 (rfl : _ = gx (gcp (gcp (gcp (gcp s (x1 + 1) 0 (x0 + 1) 0 288) (x1 + 2) 0 (x0 + 2) 0 27) (x1 + 3) 0 (x0 + 3) 0 12) (x1 + 4) 0 (x0 + 4) 0 8)) (gf1 (rfl : _ = gx (gcp (gcp (gcp (gcp s (x1 + 1) 0 (x0 + 1) 0 288) (x1 + 2) 0 (x0 + 2) 0 27) (x1 + 3) 0 (x0 + 3) 0 12) (x1 + 4) 0 (x0 + 4) 0 8)) x1 4)) x1 5)) x1 6)) x1 7)) x1 8))

/-! ZoneShares$State.putLayer(ILZoneShares$LayerText;)V -/
def gm_55_27 (x0 : Nat) (x1 : Int) (s : gx_S) : Option (gx_S) :=
  if 0 ≤ (0 : Int) ∧ 0 ≤ ((x1 * 96) : Int) ∧ 0 ≤ (96 : Int) ∧ (0 : Int) + 96 ≤ 96 ∧ ((x1 * 96) : Int) + 96 ≤ 288 then (
  some (gcp (gw1 (gw1 (gw1 s x0 4 (s.1 58 1)) x0 5 ((gw1 s x0 4 (s.1 58 1)).1 58 2)) x0 6 (((Int32.ofInt ((gw1 (gw1 s x0 4 (s.1 58 1)) x0 5 ((gw1 s x0 4 (s.1 58 1)).1 58 2)).1 x0 6) ||| Int32.ofInt (((Int32.ofInt 1 <<< (Int32.ofInt x1 &&& 31))).toInt))).toInt)) 59 0 (x0 + 1) ((x1 * 96)).toNat 96)) else none
theorem gf_55_27 (x0 : Nat) (x1 : Int) (yx1 : Int32) (e1 : yx1 = Int32.ofInt x1) (s : gx_S) (σ : fx_S) (es : σ = gx s) (q : gx_S) (g0 : fx_oc x0 6 = true) (h : gm_55_27 x0 x1 s = some q) : fm_55_27 x0 yx1 σ = some (gx q) := by
  unfold gm_55_27 at h
  unfold fm_55_27
  obtain ⟨z3, h⟩ := fx_gd h
  refine gb_bind (gl_cpy (gx_w1 (gx_w1 (gx_w1 es (gf1 es 58 1)) (gf1 (gx_w1 es (gf1 es 58 1)) 58 2)) (ga_o2 (f := (fun a b => (a ||| b))) (gf1 (gx_w1 (gx_w1 es (gf1 es 58 1)) (gf1 (gx_w1 es (gf1 es 58 1)) 58 2)) x0 6) (ga_o2 (f := (fun a b => (a <<< (b &&& 31)))) kg_1 e1))) kg_0 (ga_mul e1 kg_96) kg_96 ga_59 (ga_6_0 g0) z3) ?_
  have h := Option.some.inj h
  subst h
  exact gretv (rfl : _ = gx (gcp (gw1 (gw1 (gw1 s x0 4 (s.1 58 1)) x0 5 ((gw1 s x0 4 (s.1 58 1)).1 58 2)) x0 6 (((Int32.ofInt ((gw1 (gw1 s x0 4 (s.1 58 1)) x0 5 ((gw1 s x0 4 (s.1 58 1)).1 58 2)).1 x0 6) ||| Int32.ofInt (((Int32.ofInt 1 <<< (Int32.ofInt x1 &&& 31))).toInt))).toInt)) 59 0 (x0 + 1) ((x1 * 96)).toNat 96))
def gm_55_22 (x0 : Nat) (x1 : Int) (s : gx_S) : Option (gx_S) :=
  gm_55_27 x0 x1 (gw1 s x0 6 0)
theorem gf_55_22 (x0 : Nat) (x1 : Int) (yx1 : Int32) (e1 : yx1 = Int32.ofInt x1) (s : gx_S) (σ : fx_S) (es : σ = gx s) (q : gx_S) (g0 : fx_oc x0 6 = true) (h : gm_55_22 x0 x1 s = some q) : fm_55_22 x0 yx1 σ = some (gx q) := by
  unfold gm_55_22 at h
  unfold fm_55_22
  exact gf_55_27 _ _ _ e1 _ _ (gx_w1 es kg_0) _ g0 h
def gm_55 (x0 : Nat) (x1 : Int) (s : gx_S) : Option (gx_S) :=
  if fx_oc x0 6 = true then (
  if (-2147483648 ≤ (s.1 58 1) ∧ (s.1 58 1) ≤ 2147483647) then (
  if (-2147483648 ≤ (s.1 x0 4) ∧ (s.1 x0 4) ≤ 2147483647) then (
  if ¬ (s.1 58 1) = (s.1 x0 4) then (
    gm_55_22 x0 x1 s) else (
    if (-2147483648 ≤ (s.1 58 2) ∧ (s.1 58 2) ≤ 2147483647) then (
    if (-2147483648 ≤ (s.1 x0 5) ∧ (s.1 x0 5) ≤ 2147483647) then (
    if (s.1 58 2) = (s.1 x0 5) then (
      gm_55_27 x0 x1 s) else (
      gm_55_22 x0 x1 s)) else none) else none)) else none) else none) else none
theorem gf_55 {x0 : Nat} {x1 : Int} {yx1 : Int32} (e1 : yx1 = Int32.ofInt x1) {s : gx_S} {σ : fx_S} (es : σ = gx s) {q : gx_S} (h : gm_55 x0 x1 s = some q) : fm_55 x0 yx1 σ = some (gx q) := by
  unfold gm_55 at h
  unfold fm_55
  obtain ⟨gg, h⟩ := fx_gd h
  refine gb_t gg ?_
  have g0 := gg
  obtain ⟨z10, h⟩ := fx_gd h
  obtain ⟨z11, h⟩ := fx_gd h
  by_cases c12 : ¬ (s.1 58 1) = (s.1 x0 4)
  · rw [if_pos c12] at h
    refine gb_t ((gc_ne (gf1 es 58 1) (gf1 es x0 4) z10 z11).mpr c12) ?_
    exact gf_55_22 _ _ _ e1 _ _ es _ g0 h
  · rw [if_neg c12] at h
    refine gb_f (fun q => c12 ((gc_ne (gf1 es 58 1) (gf1 es x0 4) z10 z11).mp q)) ?_
    obtain ⟨z13, h⟩ := fx_gd h
    obtain ⟨z14, h⟩ := fx_gd h
    by_cases c15 : (s.1 58 2) = (s.1 x0 5)
    · rw [if_pos c15] at h
      refine gb_t ((gc_eq (gf1 es 58 2) (gf1 es x0 5) z13 z14).mpr c15) ?_
      exact gf_55_27 _ _ _ e1 _ _ es _ g0 h
    · rw [if_neg c15] at h
      refine gb_f (fun q => c15 ((gc_eq (gf1 es 58 2) (gf1 es x0 5) z13 z14).mp q)) ?_
      exact gf_55_22 _ _ _ e1 _ _ es _ g0 h

/-! ZoneShares$State.has(I)Z -/
def gm_56 (x0 : Nat) (x1 : Int) (s : gx_S) : Option (Bool × gx_S) :=
  if fx_oc x0 6 = true then (
  if (-2147483648 ≤ ((Int32.ofInt (((Int32.ofInt (s.1 x0 6) >>> (Int32.ofInt x1 &&& 31))).toInt) &&& Int32.ofInt 1)).toInt ∧ ((Int32.ofInt (((Int32.ofInt (s.1 x0 6) >>> (Int32.ofInt x1 &&& 31))).toInt) &&& Int32.ofInt 1)).toInt ≤ 2147483647) then (
  if ¬ ((Int32.ofInt (((Int32.ofInt (s.1 x0 6) >>> (Int32.ofInt x1 &&& 31))).toInt) &&& Int32.ofInt 1)).toInt = 1 then (
    some (false, s)) else (
    some (true, s))) else none) else none
theorem gf_56 {x0 : Nat} {x1 : Int} {yx1 : Int32} (e1 : yx1 = Int32.ofInt x1) {s : gx_S} {σ : fx_S} (es : σ = gx s) {q : Bool × gx_S} (h : gm_56 x0 x1 s = some q) : fm_56 x0 yx1 σ = some (q.1, gx q.2) := by
  unfold gm_56 at h
  unfold fm_56
  obtain ⟨gg, h⟩ := fx_gd h
  refine gb_t gg ?_
  have g0 := gg
  obtain ⟨z3, h⟩ := fx_gd h
  by_cases c4 : ¬ ((Int32.ofInt (((Int32.ofInt (s.1 x0 6) >>> (Int32.ofInt x1 &&& 31))).toInt) &&& Int32.ofInt 1)).toInt = 1
  · rw [if_pos c4] at h
    refine gb_t ((gc_ne (ga_o2 (f := (fun a b => (a &&& b))) (ga_o2 (f := (fun a b => (a >>> (b &&& 31)))) (gf1 es x0 6) e1) kg_1) kg_1 z3 (by decide)).mpr c4) ?_
    have h := Option.some.inj h
    subst h
    exact gretb es
  · rw [if_neg c4] at h
    refine gb_f (fun q => c4 ((gc_ne (ga_o2 (f := (fun a b => (a &&& b))) (ga_o2 (f := (fun a b => (a >>> (b &&& 31)))) (gf1 es x0 6) e1) kg_1) kg_1 z3 (by decide)).mp q)) ?_
    have h := Option.some.inj h
    subst h
    exact gretb es

/-! ZoneShares$State.whole()Z -/
def gm_57 (x0 : Nat) (s : gx_S) : Option (Bool × gx_S) :=
  if fx_oc x0 6 = true then (
  if (-2147483648 ≤ (s.1 x0 6) ∧ (s.1 x0 6) ≤ 2147483647) then (
  if ¬ (s.1 x0 6) = 7 then (
    some (false, s)) else (
    some (true, s))) else none) else none
theorem gf_57 {x0 : Nat} {s : gx_S} {σ : fx_S} (es : σ = gx s) {q : Bool × gx_S} (h : gm_57 x0 s = some q) : fm_57 x0 σ = some (q.1, gx q.2) := by
  unfold gm_57 at h
  unfold fm_57
  obtain ⟨gg, h⟩ := fx_gd h
  refine gb_t gg ?_
  have g0 := gg
  obtain ⟨z3, h⟩ := fx_gd h
  by_cases c4 : ¬ (s.1 x0 6) = 7
  · rw [if_pos c4] at h
    refine gb_t ((gc_ne (gf1 es x0 6) kg_7 z3 (by decide)).mpr c4) ?_
    have h := Option.some.inj h
    subst h
    exact gretb es
  · rw [if_neg c4] at h
    refine gb_f (fun q => c4 ((gc_ne (gf1 es x0 6) kg_7 z3 (by decide)).mp q)) ?_
    have h := Option.some.inj h
    subst h
    exact gretb es

/-! ZoneShares$State.cells()I -/
def gm_58 (x0 : Nat) (s : gx_S) : Option (Int × gx_S) :=
  if fx_oc x0 6 = true then (
  some (((s.1 x0 4) * (s.1 x0 5)), s)) else none
theorem gf_58 {x0 : Nat} {s : gx_S} {σ : fx_S} (es : σ = gx s) {q : Int × gx_S} (h : gm_58 x0 s = some q) : fm_58 x0 σ = some (Int32.ofInt q.1, gx q.2) := by
  unfold gm_58 at h
  unfold fm_58
  obtain ⟨gg, h⟩ := fx_gd h
  refine gb_t gg ?_
  have g0 := gg
  have h := Option.some.inj h
  subst h
  exact gret (ga_mul (gf1 es x0 4) (gf1 es x0 5)) es

/-! ZoneShares$State.hasCell(II)Z -/
def gm_59 (x0 : Nat) (x1 : Int) (x2 : Int) (s : gx_S) : Option (Bool × gx_S) :=
  if fx_oc x0 6 = true then (
  if (-2147483648 ≤ x1 ∧ x1 ≤ 2147483647) then (
  if x1 < 0 then (
    some (false, s)) else (
    if (-2147483648 ≤ (s.1 x0 4) ∧ (s.1 x0 4) ≤ 2147483647) then (
    if (s.1 x0 4) ≤ x1 then (
      some (false, s)) else (
      if (-2147483648 ≤ x2 ∧ x2 ≤ 2147483647) then (
      if x2 < 0 then (
        some (false, s)) else (
        if (-2147483648 ≤ (s.1 x0 5) ∧ (s.1 x0 5) ≤ 2147483647) then (
        if (s.1 x0 5) ≤ x2 then (
          some (false, s)) else (
          some (true, s))) else none)) else none)) else none)) else none) else none
theorem gf_59 {x0 : Nat} {x1 : Int} {yx1 : Int32} (e1 : yx1 = Int32.ofInt x1) {x2 : Int} {yx2 : Int32} (e2 : yx2 = Int32.ofInt x2) {s : gx_S} {σ : fx_S} (es : σ = gx s) {q : Bool × gx_S} (h : gm_59 x0 x1 x2 s = some q) : fm_59 x0 yx1 yx2 σ = some (q.1, gx q.2) := by
  unfold gm_59 at h
  unfold fm_59
  obtain ⟨gg, h⟩ := fx_gd h
  refine gb_t gg ?_
  have g0 := gg
  obtain ⟨z9, h⟩ := fx_gd h
  by_cases c10 : x1 < 0
  · rw [if_pos c10] at h
    refine gb_t ((gc_lt e1 kg_0 z9 (by decide)).mpr c10) ?_
    have h := Option.some.inj h
    subst h
    exact gretb es
  · rw [if_neg c10] at h
    refine gb_f (fun q => c10 ((gc_lt e1 kg_0 z9 (by decide)).mp q)) ?_
    obtain ⟨z11, h⟩ := fx_gd h
    by_cases c12 : (s.1 x0 4) ≤ x1
    · rw [if_pos c12] at h
      refine gb_t ((gc_le (gf1 es x0 4) e1 z11 z9).mpr c12) ?_
      have h := Option.some.inj h
      subst h
      exact gretb es
    · rw [if_neg c12] at h
      refine gb_f (fun q => c12 ((gc_le (gf1 es x0 4) e1 z11 z9).mp q)) ?_
      obtain ⟨z13, h⟩ := fx_gd h
      by_cases c14 : x2 < 0
      · rw [if_pos c14] at h
        refine gb_t ((gc_lt e2 kg_0 z13 (by decide)).mpr c14) ?_
        have h := Option.some.inj h
        subst h
        exact gretb es
      · rw [if_neg c14] at h
        refine gb_f (fun q => c14 ((gc_lt e2 kg_0 z13 (by decide)).mp q)) ?_
        obtain ⟨z15, h⟩ := fx_gd h
        by_cases c16 : (s.1 x0 5) ≤ x2
        · rw [if_pos c16] at h
          refine gb_t ((gc_le (gf1 es x0 5) e2 z15 z13).mpr c16) ?_
          have h := Option.some.inj h
          subst h
          exact gretb es
        · rw [if_neg c16] at h
          refine gb_f (fun q => c16 ((gc_le (gf1 es x0 5) e2 z15 z13).mp q)) ?_
          have h := Option.some.inj h
          subst h
          exact gretb es

/-! ZoneShares$State.at(II)I -/
def gm_60 (x0 : Nat) (x1 : Int) (x2 : Int) (s : gx_S) : Option (Int × gx_S) :=
  if fx_oc x0 6 = true then (
  if 0 ≤ ((x1 * 96) + x2) ∧ ((x1 * 96) + x2) < 288 then (
  some ((s.1 (x0 + 1) (((x1 * 96) + x2)).toNat), s)) else none) else none
theorem gf_60 {x0 : Nat} {x1 : Int} {yx1 : Int32} (e1 : yx1 = Int32.ofInt x1) {x2 : Int} {yx2 : Int32} (e2 : yx2 = Int32.ofInt x2) {s : gx_S} {σ : fx_S} (es : σ = gx s) {q : Int × gx_S} (h : gm_60 x0 x1 x2 s = some q) : fm_60 x0 yx1 yx2 σ = some (Int32.ofInt q.1, gx q.2) := by
  unfold gm_60 at h
  unfold fm_60
  obtain ⟨gg, h⟩ := fx_gd h
  refine gb_t gg ?_
  have g0 := gg
  obtain ⟨z6, h⟩ := fx_gd h
  refine gb_bind (gl_ld es (ga_add (ga_mul e1 kg_96) e2) (ga_6_0 g0) z6) ?_
  have h := Option.some.inj h
  subst h
  exact gret (gr (s.1 (x0 + 1) (((x1 * 96) + x2)).toNat)) es

/-! ZoneShares$State.weightAt(II)I -/
def gm_61 (x0 : Nat) (x1 : Int) (x2 : Int) (s : gx_S) : Option (Int × gx_S) :=
  if fx_oc x0 6 = true then (
  (gm_60 x0 2 x2 s).bind fun q7 =>
  if 0 ≤ ((x1 * 4) + q7.1) ∧ ((x1 * 4) + q7.1) < 12 then (
  some ((q7.2.1 (x0 + 3) (((x1 * 4) + q7.1)).toNat), q7.2)) else none) else none
theorem gf_61 {x0 : Nat} {x1 : Int} {yx1 : Int32} (e1 : yx1 = Int32.ofInt x1) {x2 : Int} {yx2 : Int32} (e2 : yx2 = Int32.ofInt x2) {s : gx_S} {σ : fx_S} (es : σ = gx s) {q : Int × gx_S} (h : gm_61 x0 x1 x2 s = some q) : fm_61 x0 yx1 yx2 σ = some (Int32.ofInt q.1, gx q.2) := by
  unfold gm_61 at h
  unfold fm_61
  obtain ⟨gg, h⟩ := fx_gd h
  refine gb_t gg ?_
  have g0 := gg
  obtain ⟨q7, w6, h⟩ := fx_bd h
  refine gb_bind (gf_60 kg_2 e2 es w6) ?_
  obtain ⟨z10, h⟩ := fx_gd h
  refine gb_bind (gl_ld (rfl : _ = gx q7.2) (ga_add (ga_mul e1 kg_4) (gr q7.1)) (ga_6_2 g0) z10) ?_
  have h := Option.some.inj h
  subst h
  exact gret (gr (q7.2.1 (x0 + 3) (((x1 * 4) + q7.1)).toNat)) (rfl : _ = gx q7.2)

/-! ZoneShares$State.cellsOf(II)I -/
def gm_62_43 (k_23 : Nat → Int → Int → Int → Int → Int → gx_S → Option (Int × gx_S)) (x0 : Nat) (x1 : Int) (x2 : Int) (x3 : Int) (x4 : Int) (x5 : Int) (s : gx_S) : Option (Int × gx_S) :=
  k_23 x0 x1 x2 x3 x4 (x5 + 1) s
theorem gf_62_43 {kf_23 : Nat → Int32 → Int32 → Int32 → Int32 → Int32 → fx_S → Option (Int32 × fx_S)} {kg_23 : Nat → Int → Int → Int → Int → Int → gx_S → Option (Int × gx_S)} (hk_23 : ∀ (x0 : Nat) (x1 : Int) (yx1 : Int32) (e1 : yx1 = Int32.ofInt x1) (x2 : Int) (yx2 : Int32) (e2 : yx2 = Int32.ofInt x2) (x3 : Int) (yx3 : Int32) (e3 : yx3 = Int32.ofInt x3) (x4 : Int) (yx4 : Int32) (e4 : yx4 = Int32.ofInt x4) (x5 : Int) (yx5 : Int32) (e5 : yx5 = Int32.ofInt x5) (s : gx_S) (σ : fx_S) (es : σ = gx s) (q : Int × gx_S) (g0 : fx_oc x0 6 = true), kg_23 x0 x1 x2 x3 x4 x5 s = some q → kf_23 x0 yx1 yx2 yx3 yx4 yx5 σ = some (Int32.ofInt q.1, gx q.2)) (x0 : Nat) (x1 : Int) (yx1 : Int32) (e1 : yx1 = Int32.ofInt x1) (x2 : Int) (yx2 : Int32) (e2 : yx2 = Int32.ofInt x2) (x3 : Int) (yx3 : Int32) (e3 : yx3 = Int32.ofInt x3) (x4 : Int) (yx4 : Int32) (e4 : yx4 = Int32.ofInt x4) (x5 : Int) (yx5 : Int32) (e5 : yx5 = Int32.ofInt x5) (s : gx_S) (σ : fx_S) (es : σ = gx s) (q : Int × gx_S) (g0 : fx_oc x0 6 = true) (h : gm_62_43 kg_23 x0 x1 x2 x3 x4 x5 s = some q) : fm_62_43 kf_23 x0 yx1 yx2 yx3 yx4 yx5 σ = some (Int32.ofInt q.1, gx q.2) := by
  unfold gm_62_43 at h
  unfold fm_62_43
  exact hk_23 _ _ _ e1 _ _ e2 _ _ e3 _ _ e4 _ _ (ga_add e5 kg_1) _ _ es _ g0 h
def gm_62_23 : Nat → Nat → Int → Int → Int → Int → Int → gx_S → Option (Int × gx_S)
  | 0, _, _, _, _, _, _, _ => none
  | n + 1, x0, x1, x2, x3, x4, x5, s =>
    if (-2147483648 ≤ x5 ∧ x5 ≤ 2147483647) then (
    if (-2147483648 ≤ x3 ∧ x3 ≤ 2147483647) then (
    if x3 ≤ x5 then (
      some (x4, s)) else (
      (gm_60 x0 x1 x5 s).bind fun q5 =>
      if (-2147483648 ≤ q5.1 ∧ q5.1 ≤ 2147483647) then (
      if (-2147483648 ≤ x2 ∧ x2 ≤ 2147483647) then (
      if ¬ q5.1 = x2 then (
        gm_62_43 (gm_62_23 n) x0 x1 x2 x3 x4 x5 q5.2) else (
        gm_62_43 (gm_62_23 n) x0 x1 x2 x3 (x4 + 1) x5 q5.2)) else none) else none)) else none) else none
theorem gf_62_23 : ∀ (n : Nat) (x0 : Nat) (x1 : Int) (yx1 : Int32) (e1 : yx1 = Int32.ofInt x1) (x2 : Int) (yx2 : Int32) (e2 : yx2 = Int32.ofInt x2) (x3 : Int) (yx3 : Int32) (e3 : yx3 = Int32.ofInt x3) (x4 : Int) (yx4 : Int32) (e4 : yx4 = Int32.ofInt x4) (x5 : Int) (yx5 : Int32) (e5 : yx5 = Int32.ofInt x5) (s : gx_S) (σ : fx_S) (es : σ = gx s) (q : Int × gx_S) (g0 : fx_oc x0 6 = true), gm_62_23 n x0 x1 x2 x3 x4 x5 s = some q → fm_62_23 n x0 yx1 yx2 yx3 yx4 yx5 σ = some (Int32.ofInt q.1, gx q.2) := by
  intro n
  induction n with
  | zero =>
    intro x0 x1 yx1 e1 x2 yx2 e2 x3 yx3 e3 x4 yx4 e4 x5 yx5 e5 s σ es q g0 h
    rw [gm_62_23] at h
    exact fx_no h
  | succ n ih =>
    intro x0 x1 yx1 e1 x2 yx2 e2 x3 yx3 e3 x4 yx4 e4 x5 yx5 e5 s σ es q g0 h
    rw [gm_62_23] at h
    rw [fm_62_23]
    obtain ⟨z1, h⟩ := fx_gd h
    obtain ⟨z2, h⟩ := fx_gd h
    by_cases c3 : x3 ≤ x5
    · rw [if_pos c3] at h
      refine gb_t ((gc_le e3 e5 z2 z1).mpr c3) ?_
      have h := Option.some.inj h
      subst h
      exact gret e4 es
    · rw [if_neg c3] at h
      refine gb_f (fun q => c3 ((gc_le e3 e5 z2 z1).mp q)) ?_
      obtain ⟨q5, w4, h⟩ := fx_bd h
      refine gb_bind (gf_60 e1 e5 es w4) ?_
      obtain ⟨z6, h⟩ := fx_gd h
      obtain ⟨z7, h⟩ := fx_gd h
      by_cases c8 : ¬ q5.1 = x2
      · rw [if_pos c8] at h
        refine gb_t ((gc_ne (gr q5.1) e2 z6 z7).mpr c8) ?_
        exact gf_62_43 ih _ _ _ e1 _ _ e2 _ _ e3 _ _ e4 _ _ e5 _ _ (rfl : _ = gx q5.2) _ g0 h
      · rw [if_neg c8] at h
        refine gb_f (fun q => c8 ((gc_ne (gr q5.1) e2 z6 z7).mp q)) ?_
        exact gf_62_43 ih _ _ _ e1 _ _ e2 _ _ e3 _ _ (ga_add e4 kg_1) _ _ e5 _ _ (rfl : _ = gx q5.2) _ g0 h
def gm_62_16 (x0 : Nat) (x1 : Int) (x2 : Int) (s0 : Int) (s : gx_S) : Option (Int × gx_S) :=
  gm_62_23 100000 x0 x1 x2 s0 0 0 s
theorem gf_62_16 (x0 : Nat) (x1 : Int) (yx1 : Int32) (e1 : yx1 = Int32.ofInt x1) (x2 : Int) (yx2 : Int32) (e2 : yx2 = Int32.ofInt x2) (s0 : Int) (ys0 : Int32) (es0 : ys0 = Int32.ofInt s0) (s : gx_S) (σ : fx_S) (es : σ = gx s) (q : Int × gx_S) (g0 : fx_oc x0 6 = true) (h : gm_62_16 x0 x1 x2 s0 s = some q) : fm_62_16 x0 yx1 yx2 ys0 σ = some (Int32.ofInt q.1, gx q.2) := by
  unfold gm_62_16 at h
  unfold fm_62_16
  exact gf_62_23 100000 _ _ _ e1 _ _ e2 _ _ es0 _ _ kg_0 _ _ kg_0 _ _ es _ g0 h
def gm_62 (x0 : Nat) (x1 : Int) (x2 : Int) (s : gx_S) : Option (Int × gx_S) :=
  if fx_oc x0 6 = true then (
  (gm_56 x0 x1 s).bind fun q15 =>
  if (gb q15.1) = 0 then (
    gm_62_16 x0 x1 x2 0 q15.2) else (
    (gm_58 x0 q15.2).bind fun q18 =>
    gm_62_16 x0 x1 x2 q18.1 q18.2)) else none
theorem gf_62 {x0 : Nat} {x1 : Int} {yx1 : Int32} (e1 : yx1 = Int32.ofInt x1) {x2 : Int} {yx2 : Int32} (e2 : yx2 = Int32.ofInt x2) {s : gx_S} {σ : fx_S} (es : σ = gx s) {q : Int × gx_S} (h : gm_62 x0 x1 x2 s = some q) : fm_62 x0 yx1 yx2 σ = some (Int32.ofInt q.1, gx q.2) := by
  unfold gm_62 at h
  unfold fm_62
  obtain ⟨gg, h⟩ := fx_gd h
  refine gb_t gg ?_
  have g0 := gg
  obtain ⟨q15, w14, h⟩ := fx_bd h
  refine gb_bind (gf_56 e1 es w14) ?_
  by_cases c16 : (gb q15.1) = 0
  · rw [if_pos c16] at h
    refine gb_t ((gc_eq (gb_b q15.1) kg_0 (gb_r _) (by decide)).mpr c16) ?_
    exact gf_62_16 _ _ _ e1 _ _ e2 _ _ kg_0 _ _ (rfl : _ = gx q15.2) _ g0 h
  · rw [if_neg c16] at h
    refine gb_f (fun q => c16 ((gc_eq (gb_b q15.1) kg_0 (gb_r _) (by decide)).mp q)) ?_
    obtain ⟨q18, w17, h⟩ := fx_bd h
    refine gb_bind (gf_58 (rfl : _ = gx q15.2) w17) ?_
    exact gf_62_16 _ _ _ e1 _ _ e2 _ _ (gr q18.1) _ _ (rfl : _ = gx q18.2) _ g0 h

/-! ZoneShares$State.kinds(II)I -/
def gm_63_24 (k_5 : Nat → Int → Int → Int → Int → gx_S → Option (Int × gx_S)) (x0 : Nat) (x1 : Int) (x2 : Int) (x3 : Int) (x4 : Int) (s : gx_S) : Option (Int × gx_S) :=
  k_5 x0 x1 x2 x3 (x4 + 1) s
theorem gf_63_24 {kf_5 : Nat → Int32 → Int32 → Int32 → Int32 → fx_S → Option (Int32 × fx_S)} {kg_5 : Nat → Int → Int → Int → Int → gx_S → Option (Int × gx_S)} (hk_5 : ∀ (x0 : Nat) (x1 : Int) (yx1 : Int32) (e1 : yx1 = Int32.ofInt x1) (x2 : Int) (yx2 : Int32) (e2 : yx2 = Int32.ofInt x2) (x3 : Int) (yx3 : Int32) (e3 : yx3 = Int32.ofInt x3) (x4 : Int) (yx4 : Int32) (e4 : yx4 = Int32.ofInt x4) (s : gx_S) (σ : fx_S) (es : σ = gx s) (q : Int × gx_S) (g0 : fx_oc x0 6 = true), kg_5 x0 x1 x2 x3 x4 s = some q → kf_5 x0 yx1 yx2 yx3 yx4 σ = some (Int32.ofInt q.1, gx q.2)) (x0 : Nat) (x1 : Int) (yx1 : Int32) (e1 : yx1 = Int32.ofInt x1) (x2 : Int) (yx2 : Int32) (e2 : yx2 = Int32.ofInt x2) (x3 : Int) (yx3 : Int32) (e3 : yx3 = Int32.ofInt x3) (x4 : Int) (yx4 : Int32) (e4 : yx4 = Int32.ofInt x4) (s : gx_S) (σ : fx_S) (es : σ = gx s) (q : Int × gx_S) (g0 : fx_oc x0 6 = true) (h : gm_63_24 kg_5 x0 x1 x2 x3 x4 s = some q) : fm_63_24 kf_5 x0 yx1 yx2 yx3 yx4 σ = some (Int32.ofInt q.1, gx q.2) := by
  unfold gm_63_24 at h
  unfold fm_63_24
  exact hk_5 _ _ _ e1 _ _ e2 _ _ e3 _ _ (ga_add e4 kg_1) _ _ es _ g0 h
def gm_63_5 : Nat → Nat → Int → Int → Int → Int → gx_S → Option (Int × gx_S)
  | 0, _, _, _, _, _, _ => none
  | n + 1, x0, x1, x2, x3, x4, s =>
    if (-2147483648 ≤ x4 ∧ x4 ≤ 2147483647) then (
    if (-2147483648 ≤ x2 ∧ x2 ≤ 2147483647) then (
    if x2 ≤ x4 then (
      some (x3, s)) else (
      (gm_62 x0 x1 x4 s).bind fun q5 =>
      if (-2147483648 ≤ q5.1 ∧ q5.1 ≤ 2147483647) then (
      if q5.1 ≤ 0 then (
        gm_63_24 (gm_63_5 n) x0 x1 x2 x3 x4 q5.2) else (
        gm_63_24 (gm_63_5 n) x0 x1 x2 (x3 + 1) x4 q5.2)) else none)) else none) else none
theorem gf_63_5 : ∀ (n : Nat) (x0 : Nat) (x1 : Int) (yx1 : Int32) (e1 : yx1 = Int32.ofInt x1) (x2 : Int) (yx2 : Int32) (e2 : yx2 = Int32.ofInt x2) (x3 : Int) (yx3 : Int32) (e3 : yx3 = Int32.ofInt x3) (x4 : Int) (yx4 : Int32) (e4 : yx4 = Int32.ofInt x4) (s : gx_S) (σ : fx_S) (es : σ = gx s) (q : Int × gx_S) (g0 : fx_oc x0 6 = true), gm_63_5 n x0 x1 x2 x3 x4 s = some q → fm_63_5 n x0 yx1 yx2 yx3 yx4 σ = some (Int32.ofInt q.1, gx q.2) := by
  intro n
  induction n with
  | zero =>
    intro x0 x1 yx1 e1 x2 yx2 e2 x3 yx3 e3 x4 yx4 e4 s σ es q g0 h
    rw [gm_63_5] at h
    exact fx_no h
  | succ n ih =>
    intro x0 x1 yx1 e1 x2 yx2 e2 x3 yx3 e3 x4 yx4 e4 s σ es q g0 h
    rw [gm_63_5] at h
    rw [fm_63_5]
    obtain ⟨z1, h⟩ := fx_gd h
    obtain ⟨z2, h⟩ := fx_gd h
    by_cases c3 : x2 ≤ x4
    · rw [if_pos c3] at h
      refine gb_t ((gc_le e2 e4 z2 z1).mpr c3) ?_
      have h := Option.some.inj h
      subst h
      exact gret e3 es
    · rw [if_neg c3] at h
      refine gb_f (fun q => c3 ((gc_le e2 e4 z2 z1).mp q)) ?_
      obtain ⟨q5, w4, h⟩ := fx_bd h
      refine gb_bind (gf_62 e1 e4 es w4) ?_
      obtain ⟨z6, h⟩ := fx_gd h
      by_cases c7 : q5.1 ≤ 0
      · rw [if_pos c7] at h
        refine gb_t ((gc_le (gr q5.1) kg_0 z6 (by decide)).mpr c7) ?_
        exact gf_63_24 ih _ _ _ e1 _ _ e2 _ _ e3 _ _ e4 _ _ (rfl : _ = gx q5.2) _ g0 h
      · rw [if_neg c7] at h
        refine gb_f (fun q => c7 ((gc_le (gr q5.1) kg_0 z6 (by decide)).mp q)) ?_
        exact gf_63_24 ih _ _ _ e1 _ _ e2 _ _ (ga_add e3 kg_1) _ _ e4 _ _ (rfl : _ = gx q5.2) _ g0 h
def gm_63 (x0 : Nat) (x1 : Int) (x2 : Int) (s : gx_S) : Option (Int × gx_S) :=
  if fx_oc x0 6 = true then (
  gm_63_5 100000 x0 x1 x2 0 0 s) else none
theorem gf_63 {x0 : Nat} {x1 : Int} {yx1 : Int32} (e1 : yx1 = Int32.ofInt x1) {x2 : Int} {yx2 : Int32} (e2 : yx2 = Int32.ofInt x2) {s : gx_S} {σ : fx_S} (es : σ = gx s) {q : Int × gx_S} (h : gm_63 x0 x1 x2 s = some q) : fm_63 x0 yx1 yx2 σ = some (Int32.ofInt q.1, gx q.2) := by
  unfold gm_63 at h
  unfold fm_63
  obtain ⟨gg, h⟩ := fx_gd h
  refine gb_t gg ?_
  have g0 := gg
  exact gf_63_5 100000 _ _ _ e1 _ _ e2 _ _ kg_0 _ _ kg_0 _ _ es _ g0 h

/-! ZoneShares$State.unlikeCells()I -/
def gm_64_32 (k_9 : Nat → Int → Int → Int → gx_S → Option (Int × gx_S)) (x0 : Nat) (x1 : Int) (x2 : Int) (x3 : Int) (s : gx_S) : Option (Int × gx_S) :=
  k_9 x0 x1 x2 (x3 + 1) s
theorem gf_64_32 {kf_9 : Nat → Int32 → Int32 → Int32 → fx_S → Option (Int32 × fx_S)} {kg_9 : Nat → Int → Int → Int → gx_S → Option (Int × gx_S)} (hk_9 : ∀ (x0 : Nat) (x1 : Int) (yx1 : Int32) (e1 : yx1 = Int32.ofInt x1) (x2 : Int) (yx2 : Int32) (e2 : yx2 = Int32.ofInt x2) (x3 : Int) (yx3 : Int32) (e3 : yx3 = Int32.ofInt x3) (s : gx_S) (σ : fx_S) (es : σ = gx s) (q : Int × gx_S) (g0 : fx_oc x0 6 = true), kg_9 x0 x1 x2 x3 s = some q → kf_9 x0 yx1 yx2 yx3 σ = some (Int32.ofInt q.1, gx q.2)) (x0 : Nat) (x1 : Int) (yx1 : Int32) (e1 : yx1 = Int32.ofInt x1) (x2 : Int) (yx2 : Int32) (e2 : yx2 = Int32.ofInt x2) (x3 : Int) (yx3 : Int32) (e3 : yx3 = Int32.ofInt x3) (s : gx_S) (σ : fx_S) (es : σ = gx s) (q : Int × gx_S) (g0 : fx_oc x0 6 = true) (h : gm_64_32 kg_9 x0 x1 x2 x3 s = some q) : fm_64_32 kf_9 x0 yx1 yx2 yx3 σ = some (Int32.ofInt q.1, gx q.2) := by
  unfold gm_64_32 at h
  unfold fm_64_32
  exact hk_9 _ _ _ e1 _ _ e2 _ _ (ga_add e3 kg_1) _ _ es _ g0 h
def gm_64_9 : Nat → Nat → Int → Int → Int → gx_S → Option (Int × gx_S)
  | 0, _, _, _, _, _ => none
  | n + 1, x0, x1, x2, x3, s =>
    if (-2147483648 ≤ x3 ∧ x3 ≤ 2147483647) then (
    if (-2147483648 ≤ x1 ∧ x1 ≤ 2147483647) then (
    if x1 ≤ x3 then (
      some (x2, s)) else (
      (gm_60 x0 0 x3 s).bind fun q5 =>
      (gm_60 x0 1 x3 q5.2).bind fun q7 =>
      if (-2147483648 ≤ q5.1 ∧ q5.1 ≤ 2147483647) then (
      if (-2147483648 ≤ q7.1 ∧ q7.1 ≤ 2147483647) then (
      if q5.1 = q7.1 then (
        gm_64_32 (gm_64_9 n) x0 x1 x2 x3 q7.2) else (
        gm_64_32 (gm_64_9 n) x0 x1 (x2 + 1) x3 q7.2)) else none) else none)) else none) else none
theorem gf_64_9 : ∀ (n : Nat) (x0 : Nat) (x1 : Int) (yx1 : Int32) (e1 : yx1 = Int32.ofInt x1) (x2 : Int) (yx2 : Int32) (e2 : yx2 = Int32.ofInt x2) (x3 : Int) (yx3 : Int32) (e3 : yx3 = Int32.ofInt x3) (s : gx_S) (σ : fx_S) (es : σ = gx s) (q : Int × gx_S) (g0 : fx_oc x0 6 = true), gm_64_9 n x0 x1 x2 x3 s = some q → fm_64_9 n x0 yx1 yx2 yx3 σ = some (Int32.ofInt q.1, gx q.2) := by
  intro n
  induction n with
  | zero =>
    intro x0 x1 yx1 e1 x2 yx2 e2 x3 yx3 e3 s σ es q g0 h
    rw [gm_64_9] at h
    exact fx_no h
  | succ n ih =>
    intro x0 x1 yx1 e1 x2 yx2 e2 x3 yx3 e3 s σ es q g0 h
    rw [gm_64_9] at h
    rw [fm_64_9]
    obtain ⟨z1, h⟩ := fx_gd h
    obtain ⟨z2, h⟩ := fx_gd h
    by_cases c3 : x1 ≤ x3
    · rw [if_pos c3] at h
      refine gb_t ((gc_le e1 e3 z2 z1).mpr c3) ?_
      have h := Option.some.inj h
      subst h
      exact gret e2 es
    · rw [if_neg c3] at h
      refine gb_f (fun q => c3 ((gc_le e1 e3 z2 z1).mp q)) ?_
      obtain ⟨q5, w4, h⟩ := fx_bd h
      refine gb_bind (gf_60 kg_0 e3 es w4) ?_
      obtain ⟨q7, w6, h⟩ := fx_bd h
      refine gb_bind (gf_60 kg_1 e3 (rfl : _ = gx q5.2) w6) ?_
      obtain ⟨z8, h⟩ := fx_gd h
      obtain ⟨z9, h⟩ := fx_gd h
      by_cases c10 : q5.1 = q7.1
      · rw [if_pos c10] at h
        refine gb_t ((gc_eq (gr q5.1) (gr q7.1) z8 z9).mpr c10) ?_
        exact gf_64_32 ih _ _ _ e1 _ _ e2 _ _ e3 _ _ (rfl : _ = gx q7.2) _ g0 h
      · rw [if_neg c10] at h
        refine gb_f (fun q => c10 ((gc_eq (gr q5.1) (gr q7.1) z8 z9).mp q)) ?_
        exact gf_64_32 ih _ _ _ e1 _ _ (ga_add e2 kg_1) _ _ e3 _ _ (rfl : _ = gx q7.2) _ g0 h
def gm_64 (x0 : Nat) (s : gx_S) : Option (Int × gx_S) :=
  if fx_oc x0 6 = true then (
  (gm_58 x0 s).bind fun q14 =>
  gm_64_9 100000 x0 q14.1 0 0 q14.2) else none
theorem gf_64 {x0 : Nat} {s : gx_S} {σ : fx_S} (es : σ = gx s) {q : Int × gx_S} (h : gm_64 x0 s = some q) : fm_64 x0 σ = some (Int32.ofInt q.1, gx q.2) := by
  unfold gm_64 at h
  unfold fm_64
  obtain ⟨gg, h⟩ := fx_gd h
  refine gb_t gg ?_
  have g0 := gg
  obtain ⟨q14, w13, h⟩ := fx_bd h
  refine gb_bind (gf_58 es w13) ?_
  exact gf_64_9 100000 _ _ _ (gr q14.1) _ _ kg_0 _ _ kg_0 _ _ (rfl : _ = gx q14.2) _ g0 h

/-! ZoneShares$State.metBy(I)I -/
def gm_65_39 (k_10 : Nat → Int → Int → Int → Int → gx_S → Option (Int × gx_S)) (x0 : Nat) (x1 : Int) (x2 : Int) (x3 : Int) (x4 : Int) (s : gx_S) : Option (Int × gx_S) :=
  k_10 x0 x1 x2 x3 (x4 + 1) s
theorem gf_65_39 {kf_10 : Nat → Int32 → Int32 → Int32 → Int32 → fx_S → Option (Int32 × fx_S)} {kg_10 : Nat → Int → Int → Int → Int → gx_S → Option (Int × gx_S)} (hk_10 : ∀ (x0 : Nat) (x1 : Int) (yx1 : Int32) (e1 : yx1 = Int32.ofInt x1) (x2 : Int) (yx2 : Int32) (e2 : yx2 = Int32.ofInt x2) (x3 : Int) (yx3 : Int32) (e3 : yx3 = Int32.ofInt x3) (x4 : Int) (yx4 : Int32) (e4 : yx4 = Int32.ofInt x4) (s : gx_S) (σ : fx_S) (es : σ = gx s) (q : Int × gx_S) (g0 : fx_oc x0 6 = true), kg_10 x0 x1 x2 x3 x4 s = some q → kf_10 x0 yx1 yx2 yx3 yx4 σ = some (Int32.ofInt q.1, gx q.2)) (x0 : Nat) (x1 : Int) (yx1 : Int32) (e1 : yx1 = Int32.ofInt x1) (x2 : Int) (yx2 : Int32) (e2 : yx2 = Int32.ofInt x2) (x3 : Int) (yx3 : Int32) (e3 : yx3 = Int32.ofInt x3) (x4 : Int) (yx4 : Int32) (e4 : yx4 = Int32.ofInt x4) (s : gx_S) (σ : fx_S) (es : σ = gx s) (q : Int × gx_S) (g0 : fx_oc x0 6 = true) (h : gm_65_39 kg_10 x0 x1 x2 x3 x4 s = some q) : fm_65_39 kf_10 x0 yx1 yx2 yx3 yx4 σ = some (Int32.ofInt q.1, gx q.2) := by
  unfold gm_65_39 at h
  unfold fm_65_39
  exact hk_10 _ _ _ e1 _ _ e2 _ _ e3 _ _ (ga_add e4 kg_1) _ _ es _ g0 h
def gm_65_10 : Nat → Nat → Int → Int → Int → Int → gx_S → Option (Int × gx_S)
  | 0, _, _, _, _, _, _ => none
  | n + 1, x0, x1, x2, x3, x4, s =>
    if (-2147483648 ≤ x4 ∧ x4 ≤ 2147483647) then (
    if (-2147483648 ≤ x2 ∧ x2 ≤ 2147483647) then (
    if x2 ≤ x4 then (
      some (x3, s)) else (
      (gm_60 x0 0 x4 s).bind fun q5 =>
      if (-2147483648 ≤ q5.1 ∧ q5.1 ≤ 2147483647) then (
      if (-2147483648 ≤ x1 ∧ x1 ≤ 2147483647) then (
      if ¬ q5.1 = x1 then (
        gm_65_39 (gm_65_10 n) x0 x1 x2 x3 x4 q5.2) else (
        (gm_60 x0 1 x4 q5.2).bind fun q10 =>
        gm_65_39 (gm_65_10 n) x0 x1 x2 (((Int32.ofInt x3 ||| Int32.ofInt (((Int32.ofInt 1 <<< (Int32.ofInt q10.1 &&& 31))).toInt))).toInt) x4 q10.2)) else none) else none)) else none) else none
theorem gf_65_10 : ∀ (n : Nat) (x0 : Nat) (x1 : Int) (yx1 : Int32) (e1 : yx1 = Int32.ofInt x1) (x2 : Int) (yx2 : Int32) (e2 : yx2 = Int32.ofInt x2) (x3 : Int) (yx3 : Int32) (e3 : yx3 = Int32.ofInt x3) (x4 : Int) (yx4 : Int32) (e4 : yx4 = Int32.ofInt x4) (s : gx_S) (σ : fx_S) (es : σ = gx s) (q : Int × gx_S) (g0 : fx_oc x0 6 = true), gm_65_10 n x0 x1 x2 x3 x4 s = some q → fm_65_10 n x0 yx1 yx2 yx3 yx4 σ = some (Int32.ofInt q.1, gx q.2) := by
  intro n
  induction n with
  | zero =>
    intro x0 x1 yx1 e1 x2 yx2 e2 x3 yx3 e3 x4 yx4 e4 s σ es q g0 h
    rw [gm_65_10] at h
    exact fx_no h
  | succ n ih =>
    intro x0 x1 yx1 e1 x2 yx2 e2 x3 yx3 e3 x4 yx4 e4 s σ es q g0 h
    rw [gm_65_10] at h
    rw [fm_65_10]
    obtain ⟨z1, h⟩ := fx_gd h
    obtain ⟨z2, h⟩ := fx_gd h
    by_cases c3 : x2 ≤ x4
    · rw [if_pos c3] at h
      refine gb_t ((gc_le e2 e4 z2 z1).mpr c3) ?_
      have h := Option.some.inj h
      subst h
      exact gret e3 es
    · rw [if_neg c3] at h
      refine gb_f (fun q => c3 ((gc_le e2 e4 z2 z1).mp q)) ?_
      obtain ⟨q5, w4, h⟩ := fx_bd h
      refine gb_bind (gf_60 kg_0 e4 es w4) ?_
      obtain ⟨z6, h⟩ := fx_gd h
      obtain ⟨z7, h⟩ := fx_gd h
      by_cases c8 : ¬ q5.1 = x1
      · rw [if_pos c8] at h
        refine gb_t ((gc_ne (gr q5.1) e1 z6 z7).mpr c8) ?_
        exact gf_65_39 ih _ _ _ e1 _ _ e2 _ _ e3 _ _ e4 _ _ (rfl : _ = gx q5.2) _ g0 h
      · rw [if_neg c8] at h
        refine gb_f (fun q => c8 ((gc_ne (gr q5.1) e1 z6 z7).mp q)) ?_
        obtain ⟨q10, w9, h⟩ := fx_bd h
        refine gb_bind (gf_60 kg_1 e4 (rfl : _ = gx q5.2) w9) ?_
        exact gf_65_39 ih _ _ _ e1 _ _ e2 _ _ (ga_o2 (f := (fun a b => (a ||| b))) e3 (ga_o2 (f := (fun a b => (a <<< (b &&& 31)))) kg_1 (gr q10.1))) _ _ e4 _ _ (rfl : _ = gx q10.2) _ g0 h
def gm_65 (x0 : Nat) (x1 : Int) (s : gx_S) : Option (Int × gx_S) :=
  if fx_oc x0 6 = true then (
  (gm_58 x0 s).bind fun q14 =>
  gm_65_10 100000 x0 x1 q14.1 0 0 q14.2) else none
theorem gf_65 {x0 : Nat} {x1 : Int} {yx1 : Int32} (e1 : yx1 = Int32.ofInt x1) {s : gx_S} {σ : fx_S} (es : σ = gx s) {q : Int × gx_S} (h : gm_65 x0 x1 s = some q) : fm_65 x0 yx1 σ = some (Int32.ofInt q.1, gx q.2) := by
  unfold gm_65 at h
  unfold fm_65
  obtain ⟨gg, h⟩ := fx_gd h
  refine gb_t gg ?_
  have g0 := gg
  obtain ⟨q14, w13, h⟩ := fx_bd h
  refine gb_bind (gf_58 es w13) ?_
  exact gf_65_10 100000 _ _ _ e1 _ _ (gr q14.1) _ _ kg_0 _ _ kg_0 _ _ (rfl : _ = gx q14.2) _ g0 h

/-! ZoneShares$State.toldOf(I)I -/
def gm_66_4 : Nat → Nat → Int → Int → Int → gx_S → Option (Int × gx_S)
  | 0, _, _, _, _, _ => none
  | n + 1, x0, x1, x2, x3, s =>
    if (-2147483648 ≤ x3 ∧ x3 ≤ 2147483647) then (
    if 9 ≤ x3 then (
      some (x2, s)) else (
      if 0 ≤ ((x1 * 9) + x3) ∧ ((x1 * 9) + x3) < 27 then (
      gm_66_4 n x0 x1 (x2 + (s.1 (x0 + 2) (((x1 * 9) + x3)).toNat)) (x3 + 1) s) else none)) else none
theorem gf_66_4 : ∀ (n : Nat) (x0 : Nat) (x1 : Int) (yx1 : Int32) (e1 : yx1 = Int32.ofInt x1) (x2 : Int) (yx2 : Int32) (e2 : yx2 = Int32.ofInt x2) (x3 : Int) (yx3 : Int32) (e3 : yx3 = Int32.ofInt x3) (s : gx_S) (σ : fx_S) (es : σ = gx s) (q : Int × gx_S) (g0 : fx_oc x0 6 = true), gm_66_4 n x0 x1 x2 x3 s = some q → fm_66_4 n x0 yx1 yx2 yx3 σ = some (Int32.ofInt q.1, gx q.2) := by
  intro n
  induction n with
  | zero =>
    intro x0 x1 yx1 e1 x2 yx2 e2 x3 yx3 e3 s σ es q g0 h
    rw [gm_66_4] at h
    exact fx_no h
  | succ n ih =>
    intro x0 x1 yx1 e1 x2 yx2 e2 x3 yx3 e3 s σ es q g0 h
    rw [gm_66_4] at h
    rw [fm_66_4]
    obtain ⟨z1, h⟩ := fx_gd h
    by_cases c2 : 9 ≤ x3
    · rw [if_pos c2] at h
      refine gb_t ((gc_le kg_9 e3 (by decide) z1).mpr c2) ?_
      have h := Option.some.inj h
      subst h
      exact gret e2 es
    · rw [if_neg c2] at h
      refine gb_f (fun q => c2 ((gc_le kg_9 e3 (by decide) z1).mp q)) ?_
      obtain ⟨z5, h⟩ := fx_gd h
      refine gb_bind (gl_ld es (ga_add (ga_mul e1 kg_9) e3) (ga_6_1 g0) z5) ?_
      exact ih _ _ _ e1 _ _ (ga_add e2 (gr (s.1 (x0 + 2) (((x1 * 9) + x3)).toNat))) _ _ (ga_add e3 kg_1) _ _ es _ g0 h
def gm_66 (x0 : Nat) (x1 : Int) (s : gx_S) : Option (Int × gx_S) :=
  if fx_oc x0 6 = true then (
  gm_66_4 100000 x0 x1 0 0 s) else none
theorem gf_66 {x0 : Nat} {x1 : Int} {yx1 : Int32} (e1 : yx1 = Int32.ofInt x1) {s : gx_S} {σ : fx_S} (es : σ = gx s) {q : Int × gx_S} (h : gm_66 x0 x1 s = some q) : fm_66 x0 yx1 σ = some (Int32.ofInt q.1, gx q.2) := by
  unfold gm_66 at h
  unfold fm_66
  obtain ⟨gg, h⟩ := fx_gd h
  refine gb_t gg ?_
  have g0 := gg
  exact gf_66_4 100000 _ _ _ e1 _ _ kg_0 _ _ kg_0 _ _ es _ g0 h

/-! ZoneShares$Table.add(IIII)V -/
def gm_69 (x0 : Nat) (x1 : Int) (x2 : Int) (x3 : Int) (x4 : Int) (s : gx_S) : Option (gx_S) :=
  if fx_oc x0 7 = true then (
  if 0 ≤ ((x1 * 9) + x2) ∧ ((x1 * 9) + x2) < 72 then (
  some (gw1 (gw1 s (x0 + 4) (((x1 * 9) + x2)).toNat ((s.1 (x0 + 4) (((x1 * 9) + x2)).toNat) + x3)) (x0 + 5) (((x1 * 9) + x2)).toNat (((gw1 s (x0 + 4) (((x1 * 9) + x2)).toNat ((s.1 (x0 + 4) (((x1 * 9) + x2)).toNat) + x3)).1 (x0 + 5) (((x1 * 9) + x2)).toNat) + x4))) else none) else none
theorem gf_69 {x0 : Nat} {x1 : Int} {yx1 : Int32} (e1 : yx1 = Int32.ofInt x1) {x2 : Int} {yx2 : Int32} (e2 : yx2 = Int32.ofInt x2) {x3 : Int} {yx3 : Int32} (e3 : yx3 = Int32.ofInt x3) {x4 : Int} {yx4 : Int32} (e4 : yx4 = Int32.ofInt x4) {s : gx_S} {σ : fx_S} (es : σ = gx s) {q : gx_S} (h : gm_69 x0 x1 x2 x3 x4 s = some q) : fm_69 x0 yx1 yx2 yx3 yx4 σ = some (gx q) := by
  unfold gm_69 at h
  unfold fm_69
  obtain ⟨gg, h⟩ := fx_gd h
  refine gb_t gg ?_
  have g0 := gg
  obtain ⟨z12, h⟩ := fx_gd h
  refine gb_bind (gl_ld es (ga_add (ga_mul e1 kg_9) e2) (ga_7_3 g0) z12) ?_
  refine gb_bind (gl_st es (ga_add (ga_mul e1 kg_9) e2) (ga_add (gr (s.1 (x0 + 4) (((x1 * 9) + x2)).toNat)) e3) (ga_7_3 g0) z12) ?_
  refine gb_bind (gl_ld (rfl : _ = gx (gw1 s (x0 + 4) (((x1 * 9) + x2)).toNat ((s.1 (x0 + 4) (((x1 * 9) + x2)).toNat) + x3))) (ga_add (ga_mul e1 kg_9) e2) (ga_7_4 g0) z12) ?_
  refine gb_bind (gl_st (rfl : _ = gx (gw1 s (x0 + 4) (((x1 * 9) + x2)).toNat ((s.1 (x0 + 4) (((x1 * 9) + x2)).toNat) + x3))) (ga_add (ga_mul e1 kg_9) e2) (ga_add (gr ((gw1 s (x0 + 4) (((x1 * 9) + x2)).toNat ((s.1 (x0 + 4) (((x1 * 9) + x2)).toNat) + x3)).1 (x0 + 5) (((x1 * 9) + x2)).toNat)) e4) (ga_7_4 g0) z12) ?_
  have h := Option.some.inj h
  subst h
  exact gretv (rfl : _ = gx (gw1 (gw1 s (x0 + 4) (((x1 * 9) + x2)).toNat ((s.1 (x0 + 4) (((x1 * 9) + x2)).toNat) + x3)) (x0 + 5) (((x1 * 9) + x2)).toNat (((gw1 s (x0 + 4) (((x1 * 9) + x2)).toNat ((s.1 (x0 + 4) (((x1 * 9) + x2)).toNat) + x3)).1 (x0 + 5) (((x1 * 9) + x2)).toNat) + x4)))

/-! ZoneShares$Table.cutRow(II)V -/
def gm_71_72 (k_5 : Nat → Int → Int → Int → gx_S → Option (gx_S)) (x0 : Nat) (x1 : Int) (x2 : Int) (x3 : Int) (s0 : Nat) (s1 : Int) (s2 : Int) (s : gx_S) : Option (gx_S) :=
  if gx_p s0 = true then (
  if 0 ≤ s1 ∧ s1 < ((fx_sh s0).2 : Int) then (
  if 0 ≤ x3 ∧ x3 < 72 then (
  k_5 x0 x1 x2 (x3 + 1) (gw1 (gw1 s s0 (s1).toNat s2) (x0 + 8) (x3).toNat ((gw1 s s0 (s1).toNat s2).1 (x0 + 6) (x3).toNat))) else none) else none) else none
theorem gf_71_72 {kf_5 : Nat → Int32 → Int32 → Int32 → fx_S → Option (fx_S)} {kg_5 : Nat → Int → Int → Int → gx_S → Option (gx_S)} (hk_5 : ∀ (x0 : Nat) (x1 : Int) (yx1 : Int32) (e1 : yx1 = Int32.ofInt x1) (x2 : Int) (yx2 : Int32) (e2 : yx2 = Int32.ofInt x2) (x3 : Int) (yx3 : Int32) (e3 : yx3 = Int32.ofInt x3) (s : gx_S) (σ : fx_S) (es : σ = gx s) (q : gx_S) (g0 : fx_oc x0 7 = true), kg_5 x0 x1 x2 x3 s = some q → kf_5 x0 yx1 yx2 yx3 σ = some (gx q)) (x0 : Nat) (x1 : Int) (yx1 : Int32) (e1 : yx1 = Int32.ofInt x1) (x2 : Int) (yx2 : Int32) (e2 : yx2 = Int32.ofInt x2) (x3 : Int) (yx3 : Int32) (e3 : yx3 = Int32.ofInt x3) (s0 : Nat) (s1 : Int) (ys1 : Int32) (es1 : ys1 = Int32.ofInt s1) (s2 : Int) (ys2 : Int32) (es2 : ys2 = Int32.ofInt s2) (s : gx_S) (σ : fx_S) (es : σ = gx s) (q : gx_S) (g0 : fx_oc x0 7 = true) (h : gm_71_72 kg_5 x0 x1 x2 x3 s0 s1 s2 s = some q) : fm_71_72 kf_5 x0 yx1 yx2 yx3 s0 ys1 ys2 σ = some (gx q) := by
  unfold gm_71_72 at h
  unfold fm_71_72
  obtain ⟨z3, h⟩ := fx_gd h
  obtain ⟨z4, h⟩ := fx_gd h
  refine gb_bind (gl_st es es1 es2 z3 z4) ?_
  obtain ⟨z7, h⟩ := fx_gd h
  refine gb_bind (gl_ld (rfl : _ = gx (gw1 s s0 (s1).toNat s2)) e3 (ga_7_5 g0) z7) ?_
  refine gb_bind (gl_st (rfl : _ = gx (gw1 s s0 (s1).toNat s2)) e3 (gr ((gw1 s s0 (s1).toNat s2).1 (x0 + 6) (x3).toNat)) (ga_7_7 g0) z7) ?_
  exact hk_5 _ _ _ e1 _ _ e2 _ _ (ga_add e3 kg_1) _ _ (rfl : _ = gx (gw1 (gw1 s s0 (s1).toNat s2) (x0 + 8) (x3).toNat ((gw1 s s0 (s1).toNat s2).1 (x0 + 6) (x3).toNat))) _ g0 h
def gm_71_52 (k_5 : Nat → Int → Int → Int → gx_S → Option (gx_S)) (x0 : Nat) (x1 : Int) (x2 : Int) (x3 : Int) (x4 : Int) (s0 : Nat) (s1 : Int) (s2 : Int) (s : gx_S) : Option (gx_S) :=
  if gx_p s0 = true then (
  if 0 ≤ s1 ∧ s1 < ((fx_sh s0).2 : Int) then (
  if (-2147483648 ≤ x2 ∧ x2 ≤ 2147483647) then (
  if x2 ≤ 0 then (
    gm_71_72 k_5 x0 x1 x2 x3 (x0 + 7) x3 0 (gw1 s s0 (s1).toNat s2)) else (
    if 0 ≤ x4 ∧ x4 ≤ 9223372036854775807 ∧ 0 < x2 ∧ x2 ≤ 9223372036854775807 then (
    gm_71_72 k_5 x0 x1 x2 x3 (x0 + 7) x3 (x4 % x2) (gw1 s s0 (s1).toNat s2)) else none)) else none) else none) else none
theorem gf_71_52 {kf_5 : Nat → Int32 → Int32 → Int32 → fx_S → Option (fx_S)} {kg_5 : Nat → Int → Int → Int → gx_S → Option (gx_S)} (hk_5 : ∀ (x0 : Nat) (x1 : Int) (yx1 : Int32) (e1 : yx1 = Int32.ofInt x1) (x2 : Int) (yx2 : Int32) (e2 : yx2 = Int32.ofInt x2) (x3 : Int) (yx3 : Int32) (e3 : yx3 = Int32.ofInt x3) (s : gx_S) (σ : fx_S) (es : σ = gx s) (q : gx_S) (g0 : fx_oc x0 7 = true), kg_5 x0 x1 x2 x3 s = some q → kf_5 x0 yx1 yx2 yx3 σ = some (gx q)) (x0 : Nat) (x1 : Int) (yx1 : Int32) (e1 : yx1 = Int32.ofInt x1) (x2 : Int) (yx2 : Int32) (e2 : yx2 = Int32.ofInt x2) (x3 : Int) (yx3 : Int32) (e3 : yx3 = Int32.ofInt x3) (x4 : Int) (yx4 : Int64) (e4 : yx4 = Int64.ofInt x4) (s0 : Nat) (s1 : Int) (ys1 : Int32) (es1 : ys1 = Int32.ofInt s1) (s2 : Int) (ys2 : Int32) (es2 : ys2 = Int32.ofInt s2) (s : gx_S) (σ : fx_S) (es : σ = gx s) (q : gx_S) (g0 : fx_oc x0 7 = true) (h : gm_71_52 kg_5 x0 x1 x2 x3 x4 s0 s1 s2 s = some q) : fm_71_52 kf_5 x0 yx1 yx2 yx3 yx4 s0 ys1 ys2 σ = some (gx q) := by
  unfold gm_71_52 at h
  unfold fm_71_52
  obtain ⟨z3, h⟩ := fx_gd h
  obtain ⟨z4, h⟩ := fx_gd h
  refine gb_bind (gl_st es es1 es2 z3 z4) ?_
  obtain ⟨z5, h⟩ := fx_gd h
  by_cases c6 : x2 ≤ 0
  · rw [if_pos c6] at h
    refine gb_t ((gc_le e2 kg_0 z5 (by decide)).mpr c6) ?_
    exact gf_71_72 hk_5 _ _ _ e1 _ _ e2 _ _ e3 _ _ _ e3 _ _ kg_0 _ _ (rfl : _ = gx (gw1 s s0 (s1).toNat s2)) _ g0 h
  · rw [if_neg c6] at h
    refine gb_f (fun q => c6 ((gc_le e2 kg_0 z5 (by decide)).mp q)) ?_
    obtain ⟨z7, h⟩ := fx_gd h
    refine gb_t (gcl_nz (ga_i2l e2 z5) z7) ?_
    exact gf_71_72 hk_5 _ _ _ e1 _ _ e2 _ _ e3 _ _ _ e3 _ _ (ga_l2i (gal_rem e4 (ga_i2l e2 z5) z7)) _ _ (rfl : _ = gx (gw1 s s0 (s1).toNat s2)) _ g0 h
def gm_71_5 : Nat → Nat → Int → Int → Int → gx_S → Option (gx_S)
  | 0, _, _, _, _, _ => none
  | n + 1, x0, x1, x2, x3, s =>
    if (-2147483648 ≤ x3 ∧ x3 ≤ 2147483647) then (
    if (-2147483648 ≤ ((x1 * 9) + 9) ∧ ((x1 * 9) + 9) ≤ 2147483647) then (
    if ((x1 * 9) + 9) ≤ x3 then (
      some s) else (
      if 0 ≤ x1 ∧ x1 < 8 then (
      if (-2147483648 ≤ (s.1 (x0 + 1) (x1).toNat) ∧ (s.1 (x0 + 1) (x1).toNat) ≤ 2147483647) then (
      if 0 ≤ x3 ∧ x3 < 72 then (
      if (-2147483648 ≤ (s.1 (x0 + 4) (x3).toNat) ∧ (s.1 (x0 + 4) (x3).toNat) ≤ 2147483647) then (
      if (-2147483648 ≤ x2 ∧ x2 ≤ 2147483647) then (
      if x2 ≤ 0 then (
        gm_71_52 (gm_71_5 n) x0 x1 x2 x3 ((s.1 (x0 + 1) (x1).toNat) * (s.1 (x0 + 4) (x3).toNat)) (x0 + 6) x3 0 s) else (
        if 0 ≤ ((s.1 (x0 + 1) (x1).toNat) * (s.1 (x0 + 4) (x3).toNat)) ∧ ((s.1 (x0 + 1) (x1).toNat) * (s.1 (x0 + 4) (x3).toNat)) ≤ 9223372036854775807 ∧ 0 < x2 ∧ x2 ≤ 9223372036854775807 then (
        gm_71_52 (gm_71_5 n) x0 x1 x2 x3 ((s.1 (x0 + 1) (x1).toNat) * (s.1 (x0 + 4) (x3).toNat)) (x0 + 6) x3 (((s.1 (x0 + 1) (x1).toNat) * (s.1 (x0 + 4) (x3).toNat)) / x2) s) else none)) else none) else none) else none) else none) else none)) else none) else none
theorem gf_71_5 : ∀ (n : Nat) (x0 : Nat) (x1 : Int) (yx1 : Int32) (e1 : yx1 = Int32.ofInt x1) (x2 : Int) (yx2 : Int32) (e2 : yx2 = Int32.ofInt x2) (x3 : Int) (yx3 : Int32) (e3 : yx3 = Int32.ofInt x3) (s : gx_S) (σ : fx_S) (es : σ = gx s) (q : gx_S) (g0 : fx_oc x0 7 = true), gm_71_5 n x0 x1 x2 x3 s = some q → fm_71_5 n x0 yx1 yx2 yx3 σ = some (gx q) := by
  intro n
  induction n with
  | zero =>
    intro x0 x1 yx1 e1 x2 yx2 e2 x3 yx3 e3 s σ es q g0 h
    rw [gm_71_5] at h
    exact fx_no h
  | succ n ih =>
    intro x0 x1 yx1 e1 x2 yx2 e2 x3 yx3 e3 s σ es q g0 h
    rw [gm_71_5] at h
    rw [fm_71_5]
    obtain ⟨z1, h⟩ := fx_gd h
    obtain ⟨z2, h⟩ := fx_gd h
    by_cases c3 : ((x1 * 9) + 9) ≤ x3
    · rw [if_pos c3] at h
      refine gb_t ((gc_le (ga_add (ga_mul e1 kg_9) kg_9) e3 z2 z1).mpr c3) ?_
      have h := Option.some.inj h
      subst h
      exact gretv es
    · rw [if_neg c3] at h
      refine gb_f (fun q => c3 ((gc_le (ga_add (ga_mul e1 kg_9) kg_9) e3 z2 z1).mp q)) ?_
      obtain ⟨z6, h⟩ := fx_gd h
      refine gb_bind (gl_ld es e1 (ga_7_0 g0) z6) ?_
      obtain ⟨z7, h⟩ := fx_gd h
      obtain ⟨z10, h⟩ := fx_gd h
      refine gb_bind (gl_ld es e3 (ga_7_3 g0) z10) ?_
      obtain ⟨z11, h⟩ := fx_gd h
      obtain ⟨z12, h⟩ := fx_gd h
      by_cases c13 : x2 ≤ 0
      · rw [if_pos c13] at h
        refine gb_t ((gc_le e2 kg_0 z12 (by decide)).mpr c13) ?_
        exact gf_71_52 ih _ _ _ e1 _ _ e2 _ _ e3 _ _ (gal_mul (ga_i2l (gr (s.1 (x0 + 1) (x1).toNat)) z7) (ga_i2l (gr (s.1 (x0 + 4) (x3).toNat)) z11)) _ _ _ e3 _ _ kg_0 _ _ es _ g0 h
      · rw [if_neg c13] at h
        refine gb_f (fun q => c13 ((gc_le e2 kg_0 z12 (by decide)).mp q)) ?_
        obtain ⟨z14, h⟩ := fx_gd h
        refine gb_t (gcl_nz (ga_i2l e2 z12) z14) ?_
        exact gf_71_52 ih _ _ _ e1 _ _ e2 _ _ e3 _ _ (gal_mul (ga_i2l (gr (s.1 (x0 + 1) (x1).toNat)) z7) (ga_i2l (gr (s.1 (x0 + 4) (x3).toNat)) z11)) _ _ _ e3 _ _ (ga_l2i (gal_div (gal_mul (ga_i2l (gr (s.1 (x0 + 1) (x1).toNat)) z7) (ga_i2l (gr (s.1 (x0 + 4) (x3).toNat)) z11)) (ga_i2l e2 z12) z14)) _ _ es _ g0 h
def gm_71 (x0 : Nat) (x1 : Int) (x2 : Int) (s : gx_S) : Option (gx_S) :=
  if fx_oc x0 7 = true then (
  gm_71_5 100000 x0 x1 x2 (x1 * 9) s) else none
theorem gf_71 {x0 : Nat} {x1 : Int} {yx1 : Int32} (e1 : yx1 = Int32.ofInt x1) {x2 : Int} {yx2 : Int32} (e2 : yx2 = Int32.ofInt x2) {s : gx_S} {σ : fx_S} (es : σ = gx s) {q : gx_S} (h : gm_71 x0 x1 x2 s = some q) : fm_71 x0 yx1 yx2 σ = some (gx q) := by
  unfold gm_71 at h
  unfold fm_71
  obtain ⟨gg, h⟩ := fx_gd h
  refine gb_t gg ?_
  have g0 := gg
  exact gf_71_5 100000 _ _ _ e1 _ _ e2 _ _ (ga_mul e1 kg_9) _ _ es _ g0 h

/-! ZoneShares$Table.sum([II)I -/
def gm_72_4 : Nat → Nat → Int → Int → Int → gx_S → Option (Int × gx_S)
  | 0, _, _, _, _, _ => none
  | n + 1, x0, x1, x2, x3, s =>
    if (-2147483648 ≤ x3 ∧ x3 ≤ 2147483647) then (
    if 9 ≤ x3 then (
      some (x2, s)) else (
      if gx_p x0 = true then (
      if 0 ≤ ((x1 * 9) + x3) ∧ ((x1 * 9) + x3) < ((fx_sh x0).2 : Int) then (
      gm_72_4 n x0 x1 (x2 + (s.1 x0 (((x1 * 9) + x3)).toNat)) (x3 + 1) s) else none) else none)) else none
theorem gf_72_4 : ∀ (n : Nat) (x0 : Nat) (x1 : Int) (yx1 : Int32) (e1 : yx1 = Int32.ofInt x1) (x2 : Int) (yx2 : Int32) (e2 : yx2 = Int32.ofInt x2) (x3 : Int) (yx3 : Int32) (e3 : yx3 = Int32.ofInt x3) (s : gx_S) (σ : fx_S) (es : σ = gx s) (q : Int × gx_S), gm_72_4 n x0 x1 x2 x3 s = some q → fm_72_4 n x0 yx1 yx2 yx3 σ = some (Int32.ofInt q.1, gx q.2) := by
  intro n
  induction n with
  | zero =>
    intro x0 x1 yx1 e1 x2 yx2 e2 x3 yx3 e3 s σ es q  h
    rw [gm_72_4] at h
    exact fx_no h
  | succ n ih =>
    intro x0 x1 yx1 e1 x2 yx2 e2 x3 yx3 e3 s σ es q  h
    rw [gm_72_4] at h
    rw [fm_72_4]
    obtain ⟨z1, h⟩ := fx_gd h
    by_cases c2 : 9 ≤ x3
    · rw [if_pos c2] at h
      refine gb_t ((gc_le kg_9 e3 (by decide) z1).mpr c2) ?_
      have h := Option.some.inj h
      subst h
      exact gret e2 es
    · rw [if_neg c2] at h
      refine gb_f (fun q => c2 ((gc_le kg_9 e3 (by decide) z1).mp q)) ?_
      obtain ⟨z5, h⟩ := fx_gd h
      obtain ⟨z6, h⟩ := fx_gd h
      refine gb_bind (gl_ld es (ga_add (ga_mul e1 kg_9) e3) z5 z6) ?_
      exact ih _ _ _ e1 _ _ (ga_add e2 (gr (s.1 x0 (((x1 * 9) + x3)).toNat))) _ _ (ga_add e3 kg_1) _ _ es _ h
def gm_72 (x0 : Nat) (x1 : Int) (s : gx_S) : Option (Int × gx_S) :=
  gm_72_4 100000 x0 x1 0 0 s
theorem gf_72 {x0 : Nat} {x1 : Int} {yx1 : Int32} (e1 : yx1 = Int32.ofInt x1) {s : gx_S} {σ : fx_S} (es : σ = gx s) {q : Int × gx_S} (h : gm_72 x0 x1 s = some q) : fm_72 x0 yx1 σ = some (Int32.ofInt q.1, gx q.2) := by
  unfold gm_72 at h
  unfold fm_72
  exact gf_72_4 100000 _ _ _ e1 _ _ kg_0 _ _ kg_0 _ _ es _ h

/-! ZoneShares$Table.leftOver(I)I -/
def gm_73 (x0 : Nat) (x1 : Int) (s : gx_S) : Option (Int × gx_S) :=
  if fx_oc x0 7 = true then (
  if 0 ≤ x1 ∧ x1 < 8 then (
  if (-2147483648 ≤ (s.1 (x0 + 2) (x1).toNat) ∧ (s.1 (x0 + 2) (x1).toNat) ≤ 2147483647) then (
  if (s.1 (x0 + 2) (x1).toNat) ≤ 0 then (
    some (0, s)) else (
    (gm_72 (x0 + 6) x1 s).bind fun q18 =>
    some (((s.1 (x0 + 1) (x1).toNat) - q18.1), q18.2))) else none) else none) else none
theorem gf_73 {x0 : Nat} {x1 : Int} {yx1 : Int32} (e1 : yx1 = Int32.ofInt x1) {s : gx_S} {σ : fx_S} (es : σ = gx s) {q : Int × gx_S} (h : gm_73 x0 x1 s = some q) : fm_73 x0 yx1 σ = some (Int32.ofInt q.1, gx q.2) := by
  unfold gm_73 at h
  unfold fm_73
  obtain ⟨gg, h⟩ := fx_gd h
  refine gb_t gg ?_
  have g0 := gg
  obtain ⟨z12, h⟩ := fx_gd h
  refine gb_bind (gl_ld es e1 (ga_7_1 g0) z12) ?_
  obtain ⟨z13, h⟩ := fx_gd h
  by_cases c14 : (s.1 (x0 + 2) (x1).toNat) ≤ 0
  · rw [if_pos c14] at h
    refine gb_t ((gc_le (gr (s.1 (x0 + 2) (x1).toNat)) kg_0 z13 (by decide)).mpr c14) ?_
    have h := Option.some.inj h
    subst h
    exact gret kg_0 es
  · rw [if_neg c14] at h
    refine gb_f (fun q => c14 ((gc_le (gr (s.1 (x0 + 2) (x1).toNat)) kg_0 z13 (by decide)).mp q)) ?_
    refine gb_bind (gl_ld es e1 (ga_7_0 g0) z12) ?_
    obtain ⟨q18, w17, h⟩ := fx_bd h
    refine gb_bind (gf_72 e1 es w17) ?_
    have h := Option.some.inj h
    subst h
    exact gret (ga_sub (gr (s.1 (x0 + 1) (x1).toNat)) (gr q18.1)) (rfl : _ = gx q18.2)

/-! ZoneShares$Table.giveToGreatest(I)V -/
def gm_75_61 (k_10 : Nat → Int → Int → Int → Int → gx_S → Option (gx_S)) (x0 : Nat) (x1 : Int) (x2 : Int) (x3 : Int) (x4 : Int) (s : gx_S) : Option (gx_S) :=
  k_10 x0 x1 x2 x3 (x4 + 1) s
theorem gf_75_61 {kf_10 : Nat → Int32 → Int32 → Int32 → Int32 → fx_S → Option (fx_S)} {kg_10 : Nat → Int → Int → Int → Int → gx_S → Option (gx_S)} (hk_10 : ∀ (x0 : Nat) (x1 : Int) (yx1 : Int32) (e1 : yx1 = Int32.ofInt x1) (x2 : Int) (yx2 : Int32) (e2 : yx2 = Int32.ofInt x2) (x3 : Int) (yx3 : Int32) (e3 : yx3 = Int32.ofInt x3) (x4 : Int) (yx4 : Int32) (e4 : yx4 = Int32.ofInt x4) (s : gx_S) (σ : fx_S) (es : σ = gx s) (q : gx_S) (g0 : fx_oc x0 7 = true), kg_10 x0 x1 x2 x3 x4 s = some q → kf_10 x0 yx1 yx2 yx3 yx4 σ = some (gx q)) (x0 : Nat) (x1 : Int) (yx1 : Int32) (e1 : yx1 = Int32.ofInt x1) (x2 : Int) (yx2 : Int32) (e2 : yx2 = Int32.ofInt x2) (x3 : Int) (yx3 : Int32) (e3 : yx3 = Int32.ofInt x3) (x4 : Int) (yx4 : Int32) (e4 : yx4 = Int32.ofInt x4) (s : gx_S) (σ : fx_S) (es : σ = gx s) (q : gx_S) (g0 : fx_oc x0 7 = true) (h : gm_75_61 kg_10 x0 x1 x2 x3 x4 s = some q) : fm_75_61 kf_10 x0 yx1 yx2 yx3 yx4 σ = some (gx q) := by
  unfold gm_75_61 at h
  unfold fm_75_61
  exact hk_10 _ _ _ e1 _ _ e2 _ _ e3 _ _ (ga_add e4 kg_1) _ _ es _ g0 h
def gm_75_10 : Nat → Nat → Int → Int → Int → Int → gx_S → Option (gx_S)
  | 0, _, _, _, _, _, _ => none
  | n + 1, x0, x1, x2, x3, x4, s =>
    if (-2147483648 ≤ x4 ∧ x4 ≤ 2147483647) then (
    if (-2147483648 ≤ ((x1 * 9) + 9) ∧ ((x1 * 9) + 9) ≤ 2147483647) then (
    if ((x1 * 9) + 9) ≤ x4 then (
      if (-2147483648 ≤ x2 ∧ x2 ≤ 2147483647) then (
      if x2 = (-1) then (
        some s) else (
        if 0 ≤ x2 ∧ x2 < 72 then (
        some (gw1 s (x0 + 8) (x2).toNat ((s.1 (x0 + 8) (x2).toNat) + 1))) else none)) else none) else (
      if 0 ≤ x4 ∧ x4 < 72 then (
      if (-2147483648 ≤ (s.1 (x0 + 7) (x4).toNat) ∧ (s.1 (x0 + 7) (x4).toNat) ≤ 2147483647) then (
      if (-2147483648 ≤ x3 ∧ x3 ≤ 2147483647) then (
      if (s.1 (x0 + 7) (x4).toNat) ≤ x3 then (
        gm_75_61 (gm_75_10 n) x0 x1 x2 x3 x4 s) else (
        if (-2147483648 ≤ (s.1 (x0 + 8) (x4).toNat) ∧ (s.1 (x0 + 8) (x4).toNat) ≤ 2147483647) then (
        if (-2147483648 ≤ (s.1 (x0 + 6) (x4).toNat) ∧ (s.1 (x0 + 6) (x4).toNat) ≤ 2147483647) then (
        if ¬ (s.1 (x0 + 8) (x4).toNat) = (s.1 (x0 + 6) (x4).toNat) then (
          gm_75_61 (gm_75_10 n) x0 x1 x2 x3 x4 s) else (
          gm_75_61 (gm_75_10 n) x0 x1 x4 (s.1 (x0 + 7) (x4).toNat) x4 s)) else none) else none)) else none) else none) else none)) else none) else none
theorem gf_75_10 : ∀ (n : Nat) (x0 : Nat) (x1 : Int) (yx1 : Int32) (e1 : yx1 = Int32.ofInt x1) (x2 : Int) (yx2 : Int32) (e2 : yx2 = Int32.ofInt x2) (x3 : Int) (yx3 : Int32) (e3 : yx3 = Int32.ofInt x3) (x4 : Int) (yx4 : Int32) (e4 : yx4 = Int32.ofInt x4) (s : gx_S) (σ : fx_S) (es : σ = gx s) (q : gx_S) (g0 : fx_oc x0 7 = true), gm_75_10 n x0 x1 x2 x3 x4 s = some q → fm_75_10 n x0 yx1 yx2 yx3 yx4 σ = some (gx q) := by
  intro n
  induction n with
  | zero =>
    intro x0 x1 yx1 e1 x2 yx2 e2 x3 yx3 e3 x4 yx4 e4 s σ es q g0 h
    rw [gm_75_10] at h
    exact fx_no h
  | succ n ih =>
    intro x0 x1 yx1 e1 x2 yx2 e2 x3 yx3 e3 x4 yx4 e4 s σ es q g0 h
    rw [gm_75_10] at h
    rw [fm_75_10]
    obtain ⟨z1, h⟩ := fx_gd h
    obtain ⟨z2, h⟩ := fx_gd h
    by_cases c3 : ((x1 * 9) + 9) ≤ x4
    · rw [if_pos c3] at h
      refine gb_t ((gc_le (ga_add (ga_mul e1 kg_9) kg_9) e4 z2 z1).mpr c3) ?_
      obtain ⟨z4, h⟩ := fx_gd h
      by_cases c5 : x2 = (-1)
      · rw [if_pos c5] at h
        refine gb_t ((gc_eq e2 kg_m1 z4 (by decide)).mpr c5) ?_
        have h := Option.some.inj h
        subst h
        exact gretv es
      · rw [if_neg c5] at h
        refine gb_f (fun q => c5 ((gc_eq e2 kg_m1 z4 (by decide)).mp q)) ?_
        obtain ⟨z8, h⟩ := fx_gd h
        refine gb_bind (gl_ld es e2 (ga_7_7 g0) z8) ?_
        refine gb_bind (gl_st es e2 (ga_add (gr (s.1 (x0 + 8) (x2).toNat)) kg_1) (ga_7_7 g0) z8) ?_
        have h := Option.some.inj h
        subst h
        exact gretv (rfl : _ = gx (gw1 s (x0 + 8) (x2).toNat ((s.1 (x0 + 8) (x2).toNat) + 1)))
    · rw [if_neg c3] at h
      refine gb_f (fun q => c3 ((gc_le (ga_add (ga_mul e1 kg_9) kg_9) e4 z2 z1).mp q)) ?_
      obtain ⟨z13, h⟩ := fx_gd h
      refine gb_bind (gl_ld es e4 (ga_7_6 g0) z13) ?_
      obtain ⟨z14, h⟩ := fx_gd h
      obtain ⟨z15, h⟩ := fx_gd h
      by_cases c16 : (s.1 (x0 + 7) (x4).toNat) ≤ x3
      · rw [if_pos c16] at h
        refine gb_t ((gc_le (gr (s.1 (x0 + 7) (x4).toNat)) e3 z14 z15).mpr c16) ?_
        exact gf_75_61 ih _ _ _ e1 _ _ e2 _ _ e3 _ _ e4 _ _ es _ g0 h
      · rw [if_neg c16] at h
        refine gb_f (fun q => c16 ((gc_le (gr (s.1 (x0 + 7) (x4).toNat)) e3 z14 z15).mp q)) ?_
        refine gb_bind (gl_ld es e4 (ga_7_7 g0) z13) ?_
        refine gb_bind (gl_ld es e4 (ga_7_5 g0) z13) ?_
        obtain ⟨z21, h⟩ := fx_gd h
        obtain ⟨z22, h⟩ := fx_gd h
        by_cases c23 : ¬ (s.1 (x0 + 8) (x4).toNat) = (s.1 (x0 + 6) (x4).toNat)
        · rw [if_pos c23] at h
          refine gb_t ((gc_ne (gr (s.1 (x0 + 8) (x4).toNat)) (gr (s.1 (x0 + 6) (x4).toNat)) z21 z22).mpr c23) ?_
          exact gf_75_61 ih _ _ _ e1 _ _ e2 _ _ e3 _ _ e4 _ _ es _ g0 h
        · rw [if_neg c23] at h
          refine gb_f (fun q => c23 ((gc_ne (gr (s.1 (x0 + 8) (x4).toNat)) (gr (s.1 (x0 + 6) (x4).toNat)) z21 z22).mp q)) ?_
          refine gb_bind (gl_ld es e4 (ga_7_6 g0) z13) ?_
          exact gf_75_61 ih _ _ _ e1 _ _ e4 _ _ (gr (s.1 (x0 + 7) (x4).toNat)) _ _ e4 _ _ es _ g0 h
def gm_75 (x0 : Nat) (x1 : Int) (s : gx_S) : Option (gx_S) :=
  if fx_oc x0 7 = true then (
  gm_75_10 100000 x0 x1 (-1) 0 (x1 * 9) s) else none
theorem gf_75 {x0 : Nat} {x1 : Int} {yx1 : Int32} (e1 : yx1 = Int32.ofInt x1) {s : gx_S} {σ : fx_S} (es : σ = gx s) {q : gx_S} (h : gm_75 x0 x1 s = some q) : fm_75 x0 yx1 σ = some (gx q) := by
  unfold gm_75 at h
  unfold fm_75
  obtain ⟨gg, h⟩ := fx_gd h
  refine gb_t gg ?_
  have g0 := gg
  exact gf_75_10 100000 _ _ _ e1 _ _ kg_m1 _ _ kg_0 _ _ (ga_mul e1 kg_9) _ _ es _ g0 h

/-! ZoneShares$Table.column(I)I -/
def gm_76_4 : Nat → Nat → Int → Int → Int → gx_S → Option (Int × gx_S)
  | 0, _, _, _, _, _ => none
  | n + 1, x0, x1, x2, x3, s =>
    if (-2147483648 ≤ x3 ∧ x3 ≤ 2147483647) then (
    if 8 ≤ x3 then (
      some (x2, s)) else (
      if 0 ≤ ((x3 * 9) + x1) ∧ ((x3 * 9) + x1) < 72 then (
      gm_76_4 n x0 x1 (x2 + (s.1 (x0 + 8) (((x3 * 9) + x1)).toNat)) (x3 + 1) s) else none)) else none
theorem gf_76_4 : ∀ (n : Nat) (x0 : Nat) (x1 : Int) (yx1 : Int32) (e1 : yx1 = Int32.ofInt x1) (x2 : Int) (yx2 : Int32) (e2 : yx2 = Int32.ofInt x2) (x3 : Int) (yx3 : Int32) (e3 : yx3 = Int32.ofInt x3) (s : gx_S) (σ : fx_S) (es : σ = gx s) (q : Int × gx_S) (g0 : fx_oc x0 7 = true), gm_76_4 n x0 x1 x2 x3 s = some q → fm_76_4 n x0 yx1 yx2 yx3 σ = some (Int32.ofInt q.1, gx q.2) := by
  intro n
  induction n with
  | zero =>
    intro x0 x1 yx1 e1 x2 yx2 e2 x3 yx3 e3 s σ es q g0 h
    rw [gm_76_4] at h
    exact fx_no h
  | succ n ih =>
    intro x0 x1 yx1 e1 x2 yx2 e2 x3 yx3 e3 s σ es q g0 h
    rw [gm_76_4] at h
    rw [fm_76_4]
    obtain ⟨z1, h⟩ := fx_gd h
    by_cases c2 : 8 ≤ x3
    · rw [if_pos c2] at h
      refine gb_t ((gc_le kg_8 e3 (by decide) z1).mpr c2) ?_
      have h := Option.some.inj h
      subst h
      exact gret e2 es
    · rw [if_neg c2] at h
      refine gb_f (fun q => c2 ((gc_le kg_8 e3 (by decide) z1).mp q)) ?_
      obtain ⟨z5, h⟩ := fx_gd h
      refine gb_bind (gl_ld es (ga_add (ga_mul e3 kg_9) e1) (ga_7_7 g0) z5) ?_
      exact ih _ _ _ e1 _ _ (ga_add e2 (gr (s.1 (x0 + 8) (((x3 * 9) + x1)).toNat))) _ _ (ga_add e3 kg_1) _ _ es _ g0 h
def gm_76 (x0 : Nat) (x1 : Int) (s : gx_S) : Option (Int × gx_S) :=
  if fx_oc x0 7 = true then (
  gm_76_4 100000 x0 x1 0 0 s) else none
theorem gf_76 {x0 : Nat} {x1 : Int} {yx1 : Int32} (e1 : yx1 = Int32.ofInt x1) {s : gx_S} {σ : fx_S} (es : σ = gx s) {q : Int × gx_S} (h : gm_76 x0 x1 s = some q) : fm_76 x0 yx1 σ = some (Int32.ofInt q.1, gx q.2) := by
  unfold gm_76 at h
  unfold fm_76
  obtain ⟨gg, h⟩ := fx_gd h
  refine gb_t gg ?_
  have g0 := gg
  exact gf_76_4 100000 _ _ _ e1 _ _ kg_0 _ _ kg_0 _ _ es _ g0 h

/-! ZoneShares$Table.floorsOf(I)I -/
def gm_77_4 : Nat → Nat → Int → Int → Int → gx_S → Option (Int × gx_S)
  | 0, _, _, _, _, _ => none
  | n + 1, x0, x1, x2, x3, s =>
    if (-2147483648 ≤ x3 ∧ x3 ≤ 2147483647) then (
    if 8 ≤ x3 then (
      some (x2, s)) else (
      if 0 ≤ ((x3 * 9) + x1) ∧ ((x3 * 9) + x1) < 72 then (
      gm_77_4 n x0 x1 (x2 + (s.1 (x0 + 6) (((x3 * 9) + x1)).toNat)) (x3 + 1) s) else none)) else none
theorem gf_77_4 : ∀ (n : Nat) (x0 : Nat) (x1 : Int) (yx1 : Int32) (e1 : yx1 = Int32.ofInt x1) (x2 : Int) (yx2 : Int32) (e2 : yx2 = Int32.ofInt x2) (x3 : Int) (yx3 : Int32) (e3 : yx3 = Int32.ofInt x3) (s : gx_S) (σ : fx_S) (es : σ = gx s) (q : Int × gx_S) (g0 : fx_oc x0 7 = true), gm_77_4 n x0 x1 x2 x3 s = some q → fm_77_4 n x0 yx1 yx2 yx3 σ = some (Int32.ofInt q.1, gx q.2) := by
  intro n
  induction n with
  | zero =>
    intro x0 x1 yx1 e1 x2 yx2 e2 x3 yx3 e3 s σ es q g0 h
    rw [gm_77_4] at h
    exact fx_no h
  | succ n ih =>
    intro x0 x1 yx1 e1 x2 yx2 e2 x3 yx3 e3 s σ es q g0 h
    rw [gm_77_4] at h
    rw [fm_77_4]
    obtain ⟨z1, h⟩ := fx_gd h
    by_cases c2 : 8 ≤ x3
    · rw [if_pos c2] at h
      refine gb_t ((gc_le kg_8 e3 (by decide) z1).mpr c2) ?_
      have h := Option.some.inj h
      subst h
      exact gret e2 es
    · rw [if_neg c2] at h
      refine gb_f (fun q => c2 ((gc_le kg_8 e3 (by decide) z1).mp q)) ?_
      obtain ⟨z5, h⟩ := fx_gd h
      refine gb_bind (gl_ld es (ga_add (ga_mul e3 kg_9) e1) (ga_7_5 g0) z5) ?_
      exact ih _ _ _ e1 _ _ (ga_add e2 (gr (s.1 (x0 + 6) (((x3 * 9) + x1)).toNat))) _ _ (ga_add e3 kg_1) _ _ es _ g0 h
def gm_77 (x0 : Nat) (x1 : Int) (s : gx_S) : Option (Int × gx_S) :=
  if fx_oc x0 7 = true then (
  gm_77_4 100000 x0 x1 0 0 s) else none
theorem gf_77 {x0 : Nat} {x1 : Int} {yx1 : Int32} (e1 : yx1 = Int32.ofInt x1) {s : gx_S} {σ : fx_S} (es : σ = gx s) {q : Int × gx_S} (h : gm_77 x0 x1 s = some q) : fm_77 x0 yx1 σ = some (Int32.ofInt q.1, gx q.2) := by
  unfold gm_77 at h
  unfold fm_77
  obtain ⟨gg, h⟩ := fx_gd h
  refine gb_t gg ?_
  have g0 := gg
  exact gf_77_4 100000 _ _ _ e1 _ _ kg_0 _ _ kg_0 _ _ es _ g0 h

/-! ZoneShares$Table.restsOf(IJ)J -/
def gm_79_52 (k_6 : Nat → Int → Int → Int → Int → gx_S → Option (Int × gx_S)) (x0 : Nat) (x1 : Int) (x2 : Int) (x4 : Int) (x6 : Int) (s : gx_S) : Option (Int × gx_S) :=
  k_6 x0 x1 x2 x4 (x6 + 1) s
theorem gf_79_52 {kf_6 : Nat → Int32 → Int64 → Int64 → Int32 → fx_S → Option (Int64 × fx_S)} {kg_6 : Nat → Int → Int → Int → Int → gx_S → Option (Int × gx_S)} (hk_6 : ∀ (x0 : Nat) (x1 : Int) (yx1 : Int32) (e1 : yx1 = Int32.ofInt x1) (x2 : Int) (yx2 : Int64) (e2 : yx2 = Int64.ofInt x2) (x4 : Int) (yx4 : Int64) (e4 : yx4 = Int64.ofInt x4) (x6 : Int) (yx6 : Int32) (e6 : yx6 = Int32.ofInt x6) (s : gx_S) (σ : fx_S) (es : σ = gx s) (q : Int × gx_S) (g0 : fx_oc x0 7 = true), kg_6 x0 x1 x2 x4 x6 s = some q → kf_6 x0 yx1 yx2 yx4 yx6 σ = some (Int64.ofInt q.1, gx q.2)) (x0 : Nat) (x1 : Int) (yx1 : Int32) (e1 : yx1 = Int32.ofInt x1) (x2 : Int) (yx2 : Int64) (e2 : yx2 = Int64.ofInt x2) (x4 : Int) (yx4 : Int64) (e4 : yx4 = Int64.ofInt x4) (x6 : Int) (yx6 : Int32) (e6 : yx6 = Int32.ofInt x6) (s : gx_S) (σ : fx_S) (es : σ = gx s) (q : Int × gx_S) (g0 : fx_oc x0 7 = true) (h : gm_79_52 kg_6 x0 x1 x2 x4 x6 s = some q) : fm_79_52 kf_6 x0 yx1 yx2 yx4 yx6 σ = some (Int64.ofInt q.1, gx q.2) := by
  unfold gm_79_52 at h
  unfold fm_79_52
  exact hk_6 _ _ _ e1 _ _ e2 _ _ e4 _ _ (ga_add e6 kg_1) _ _ es _ g0 h
def gm_79_6 : Nat → Nat → Int → Int → Int → Int → gx_S → Option (Int × gx_S)
  | 0, _, _, _, _, _, _ => none
  | n + 1, x0, x1, x2, x4, x6, s =>
    if (-2147483648 ≤ x6 ∧ x6 ≤ 2147483647) then (
    if 8 ≤ x6 then (
      some (x4, s)) else (
      if 0 ≤ x6 ∧ x6 < 8 then (
      if (-2147483648 ≤ (s.1 (x0 + 2) (x6).toNat) ∧ (s.1 (x0 + 2) (x6).toNat) ≤ 2147483647) then (
      if (s.1 (x0 + 2) (x6).toNat) ≤ 0 then (
        gm_79_52 (gm_79_6 n) x0 x1 x2 x4 x6 s) else (
        if 0 ≤ ((x6 * 9) + x1) ∧ ((x6 * 9) + x1) < 72 then (
        if (-2147483648 ≤ (s.1 (x0 + 7) (((x6 * 9) + x1)).toNat) ∧ (s.1 (x0 + 7) (((x6 * 9) + x1)).toNat) ≤ 2147483647) then (
        if 0 ≤ x2 ∧ x2 ≤ 9223372036854775807 ∧ 0 < (s.1 (x0 + 2) (x6).toNat) ∧ (s.1 (x0 + 2) (x6).toNat) ≤ 9223372036854775807 then (
        gm_79_52 (gm_79_6 n) x0 x1 x2 (x4 + ((s.1 (x0 + 7) (((x6 * 9) + x1)).toNat) * (x2 / (s.1 (x0 + 2) (x6).toNat)))) x6 s) else none) else none) else none)) else none) else none)) else none
theorem gf_79_6 : ∀ (n : Nat) (x0 : Nat) (x1 : Int) (yx1 : Int32) (e1 : yx1 = Int32.ofInt x1) (x2 : Int) (yx2 : Int64) (e2 : yx2 = Int64.ofInt x2) (x4 : Int) (yx4 : Int64) (e4 : yx4 = Int64.ofInt x4) (x6 : Int) (yx6 : Int32) (e6 : yx6 = Int32.ofInt x6) (s : gx_S) (σ : fx_S) (es : σ = gx s) (q : Int × gx_S) (g0 : fx_oc x0 7 = true), gm_79_6 n x0 x1 x2 x4 x6 s = some q → fm_79_6 n x0 yx1 yx2 yx4 yx6 σ = some (Int64.ofInt q.1, gx q.2) := by
  intro n
  induction n with
  | zero =>
    intro x0 x1 yx1 e1 x2 yx2 e2 x4 yx4 e4 x6 yx6 e6 s σ es q g0 h
    rw [gm_79_6] at h
    exact fx_no h
  | succ n ih =>
    intro x0 x1 yx1 e1 x2 yx2 e2 x4 yx4 e4 x6 yx6 e6 s σ es q g0 h
    rw [gm_79_6] at h
    rw [fm_79_6]
    obtain ⟨z1, h⟩ := fx_gd h
    by_cases c2 : 8 ≤ x6
    · rw [if_pos c2] at h
      refine gb_t ((gc_le kg_8 e6 (by decide) z1).mpr c2) ?_
      have h := Option.some.inj h
      subst h
      exact gretl e4 es
    · rw [if_neg c2] at h
      refine gb_f (fun q => c2 ((gc_le kg_8 e6 (by decide) z1).mp q)) ?_
      obtain ⟨z5, h⟩ := fx_gd h
      refine gb_bind (gl_ld es e6 (ga_7_1 g0) z5) ?_
      obtain ⟨z6, h⟩ := fx_gd h
      by_cases c7 : (s.1 (x0 + 2) (x6).toNat) ≤ 0
      · rw [if_pos c7] at h
        refine gb_t ((gc_le (gr (s.1 (x0 + 2) (x6).toNat)) kg_0 z6 (by decide)).mpr c7) ?_
        exact gf_79_52 ih _ _ _ e1 _ _ e2 _ _ e4 _ _ e6 _ _ es _ g0 h
      · rw [if_neg c7] at h
        refine gb_f (fun q => c7 ((gc_le (gr (s.1 (x0 + 2) (x6).toNat)) kg_0 z6 (by decide)).mp q)) ?_
        obtain ⟨z10, h⟩ := fx_gd h
        refine gb_bind (gl_ld es (ga_add (ga_mul e6 kg_9) e1) (ga_7_6 g0) z10) ?_
        obtain ⟨z11, h⟩ := fx_gd h
        refine gb_bind (gl_ld es e6 (ga_7_1 g0) z5) ?_
        obtain ⟨z14, h⟩ := fx_gd h
        refine gb_t (gcl_nz (ga_i2l (gr (s.1 (x0 + 2) (x6).toNat)) z6) z14) ?_
        exact gf_79_52 ih _ _ _ e1 _ _ e2 _ _ (gal_add e4 (gal_mul (ga_i2l (gr (s.1 (x0 + 7) (((x6 * 9) + x1)).toNat)) z11) (gal_div e2 (ga_i2l (gr (s.1 (x0 + 2) (x6).toNat)) z6) z14))) _ _ e6 _ _ es _ g0 h
def gm_79 (x0 : Nat) (x1 : Int) (x2 : Int) (s : gx_S) : Option (Int × gx_S) :=
  if fx_oc x0 7 = true then (
  gm_79_6 100000 x0 x1 x2 0 0 s) else none
theorem gf_79 {x0 : Nat} {x1 : Int} {yx1 : Int32} (e1 : yx1 = Int32.ofInt x1) {x2 : Int} {yx2 : Int64} (e2 : yx2 = Int64.ofInt x2) {s : gx_S} {σ : fx_S} (es : σ = gx s) {q : Int × gx_S} (h : gm_79 x0 x1 x2 s = some q) : fm_79 x0 yx1 yx2 σ = some (Int64.ofInt q.1, gx q.2) := by
  unfold gm_79 at h
  unfold fm_79
  obtain ⟨gg, h⟩ := fx_gd h
  refine gb_t gg ?_
  have g0 := gg
  exact gf_79_6 100000 _ _ _ e1 _ _ e2 _ _ kgl_0 _ _ kg_0 _ _ es _ g0 h

/-! ZoneShares$Table.offBy(I)J -/
def gm_80 (x0 : Nat) (x1 : Int) (s : gx_S) : Option (Int × gx_S) :=
  if fx_oc x0 7 = true then (
  if 0 ≤ x1 ∧ x1 ≤ 2147483647 then (
  if 0 ≤ x1 ∧ x1 < 72 then (
  if (-2147483648 ≤ (s.1 (x0 + 8) (x1).toNat) ∧ (s.1 (x0 + 8) (x1).toNat) ≤ 2147483647) then (
  if 0 ≤ (x1 / 9) ∧ (x1 / 9) < 8 then (
  if (-2147483648 ≤ (s.1 (x0 + 2) ((x1 / 9)).toNat) ∧ (s.1 (x0 + 2) ((x1 / 9)).toNat) ≤ 2147483647) then (
  if (-2147483648 ≤ (s.1 (x0 + 1) ((x1 / 9)).toNat) ∧ (s.1 (x0 + 1) ((x1 / 9)).toNat) ≤ 2147483647) then (
  if (-2147483648 ≤ (s.1 (x0 + 4) (x1).toNat) ∧ (s.1 (x0 + 4) (x1).toNat) ≤ 2147483647) then (
  if (-9223372036854775808 ≤ (((s.1 (x0 + 8) (x1).toNat) * (s.1 (x0 + 2) ((x1 / 9)).toNat)) - ((s.1 (x0 + 1) ((x1 / 9)).toNat) * (s.1 (x0 + 4) (x1).toNat))) ∧ (((s.1 (x0 + 8) (x1).toNat) * (s.1 (x0 + 2) ((x1 / 9)).toNat)) - ((s.1 (x0 + 1) ((x1 / 9)).toNat) * (s.1 (x0 + 4) (x1).toNat))) ≤ 9223372036854775807) then (
  some ((if 0 < (((s.1 (x0 + 8) (x1).toNat) * (s.1 (x0 + 2) ((x1 / 9)).toNat)) - ((s.1 (x0 + 1) ((x1 / 9)).toNat) * (s.1 (x0 + 4) (x1).toNat))) then (((s.1 (x0 + 8) (x1).toNat) * (s.1 (x0 + 2) ((x1 / 9)).toNat)) - ((s.1 (x0 + 1) ((x1 / 9)).toNat) * (s.1 (x0 + 4) (x1).toNat))) else -(((s.1 (x0 + 8) (x1).toNat) * (s.1 (x0 + 2) ((x1 / 9)).toNat)) - ((s.1 (x0 + 1) ((x1 / 9)).toNat) * (s.1 (x0 + 4) (x1).toNat)))), s)) else none) else none) else none) else none) else none) else none) else none) else none) else none
theorem gf_80 {x0 : Nat} {x1 : Int} {yx1 : Int32} (e1 : yx1 = Int32.ofInt x1) {s : gx_S} {σ : fx_S} (es : σ = gx s) {q : Int × gx_S} (h : gm_80 x0 x1 s = some q) : fm_80 x0 yx1 σ = some (Int64.ofInt q.1, gx q.2) := by
  unfold gm_80 at h
  unfold fm_80
  obtain ⟨gg, h⟩ := fx_gd h
  refine gb_t gg ?_
  have g0 := gg
  obtain ⟨z17, h⟩ := fx_gd h
  obtain ⟨z20, h⟩ := fx_gd h
  refine gb_bind (gl_ld es e1 (ga_7_7 g0) z20) ?_
  obtain ⟨z21, h⟩ := fx_gd h
  obtain ⟨z24, h⟩ := fx_gd h
  refine gb_bind (gl_ld es (ga_div e1 kg_9 ⟨z17.1, z17.2, by decide, by decide⟩) (ga_7_1 g0) z24) ?_
  obtain ⟨z25, h⟩ := fx_gd h
  refine gb_bind (gl_ld es (ga_div e1 kg_9 ⟨z17.1, z17.2, by decide, by decide⟩) (ga_7_0 g0) z24) ?_
  obtain ⟨z28, h⟩ := fx_gd h
  refine gb_bind (gl_ld es e1 (ga_7_3 g0) z20) ?_
  obtain ⟨z31, h⟩ := fx_gd h
  obtain ⟨z32, h⟩ := fx_gd h
  have h := Option.some.inj h
  subst h
  exact gretl (gal_ite (gcl_lt kgl_0 (gal_sub (gal_mul (ga_i2l (gr (s.1 (x0 + 8) (x1).toNat)) z21) (ga_i2l (gr (s.1 (x0 + 2) ((x1 / 9)).toNat)) z25)) (gal_mul (ga_i2l (gr (s.1 (x0 + 1) ((x1 / 9)).toNat)) z28) (ga_i2l (gr (s.1 (x0 + 4) (x1).toNat)) z31))) (by decide) z32) (gal_sub (gal_mul (ga_i2l (gr (s.1 (x0 + 8) (x1).toNat)) z21) (ga_i2l (gr (s.1 (x0 + 2) ((x1 / 9)).toNat)) z25)) (gal_mul (ga_i2l (gr (s.1 (x0 + 1) ((x1 / 9)).toNat)) z28) (ga_i2l (gr (s.1 (x0 + 4) (x1).toNat)) z31))) (gal_neg (gal_sub (gal_mul (ga_i2l (gr (s.1 (x0 + 8) (x1).toNat)) z21) (ga_i2l (gr (s.1 (x0 + 2) ((x1 / 9)).toNat)) z25)) (gal_mul (ga_i2l (gr (s.1 (x0 + 1) ((x1 / 9)).toNat)) z28) (ga_i2l (gr (s.1 (x0 + 4) (x1).toNat)) z31))))) es

/-! ZoneShares$Tape.put(I)V -/
def gm_82_3 : Nat → Int → Int → gx_S → Option (gx_S)
  | 0, _, _, _ => none
  | n + 1, x1, x2, s =>
    if (-2147483648 ≤ x2 ∧ x2 ≤ 2147483647) then (
    if x2 < 0 then (
      some s) else (
      if (-2147483648 ≤ (s.1 14 1) ∧ (s.1 14 1) ≤ 2147483647) then (
      if 200 ≤ (s.1 14 1) then (
        some s) else (
        if 0 ≤ (s.1 14 1) ∧ (s.1 14 1) < 200 then (
        gm_82_3 n x1 (x2 + (-8)) (gw1 (gw1 s 15 ((s.1 14 1)).toNat (((Int32.ofInt ((((Int32.ofInt x1).toUInt32 >>> ((Int32.ofInt x2).toUInt32 &&& Int32.toUInt32 31)).toInt32).toInt) &&& Int32.ofInt 255)).toInt)) 14 1 (((gw1 s 15 ((s.1 14 1)).toNat (((Int32.ofInt ((((Int32.ofInt x1).toUInt32 >>> ((Int32.ofInt x2).toUInt32 &&& Int32.toUInt32 31)).toInt32).toInt) &&& Int32.ofInt 255)).toInt)).1 14 1) + 1))) else none)) else none)) else none
theorem gf_82_3 : ∀ (n : Nat) (x1 : Int) (yx1 : Int32) (e1 : yx1 = Int32.ofInt x1) (x2 : Int) (yx2 : Int32) (e2 : yx2 = Int32.ofInt x2) (s : gx_S) (σ : fx_S) (es : σ = gx s) (q : gx_S), gm_82_3 n x1 x2 s = some q → fm_82_3 n yx1 yx2 σ = some (gx q) := by
  intro n
  induction n with
  | zero =>
    intro x1 yx1 e1 x2 yx2 e2 s σ es q  h
    rw [gm_82_3] at h
    exact fx_no h
  | succ n ih =>
    intro x1 yx1 e1 x2 yx2 e2 s σ es q  h
    rw [gm_82_3] at h
    rw [fm_82_3]
    obtain ⟨z1, h⟩ := fx_gd h
    by_cases c2 : x2 < 0
    · rw [if_pos c2] at h
      refine gb_t ((gc_lt e2 kg_0 z1 (by decide)).mpr c2) ?_
      have h := Option.some.inj h
      subst h
      exact gretv es
    · rw [if_neg c2] at h
      refine gb_f (fun q => c2 ((gc_lt e2 kg_0 z1 (by decide)).mp q)) ?_
      obtain ⟨z3, h⟩ := fx_gd h
      by_cases c4 : 200 ≤ (s.1 14 1)
      · rw [if_pos c4] at h
        refine gb_t ((gc_le kg_200 (gf1 es 14 1) (by decide) z3).mpr c4) ?_
        have h := Option.some.inj h
        subst h
        exact gretv es
      · rw [if_neg c4] at h
        refine gb_f (fun q => c4 ((gc_le kg_200 (gf1 es 14 1) (by decide) z3).mp q)) ?_
        obtain ⟨z7, h⟩ := fx_gd h
        refine gb_bind (gl_st es (gf1 es 14 1) (ga_o2 (f := (fun a b => (a &&& b))) (ga_o2 (f := (fun a b => ((a).toUInt32 >>> ((b).toUInt32 &&& Int32.toUInt32 31)).toInt32)) e1 e2) kg_255) ga_15 z7) ?_
        exact ih _ _ e1 _ _ (ga_add e2 kg_m8) _ _ (gx_w1 (rfl : _ = gx (gw1 s 15 ((s.1 14 1)).toNat (((Int32.ofInt ((((Int32.ofInt x1).toUInt32 >>> ((Int32.ofInt x2).toUInt32 &&& Int32.toUInt32 31)).toInt32).toInt) &&& Int32.ofInt 255)).toInt))) (ga_add (gf1 (rfl : _ = gx (gw1 s 15 ((s.1 14 1)).toNat (((Int32.ofInt ((((Int32.ofInt x1).toUInt32 >>> ((Int32.ofInt x2).toUInt32 &&& Int32.toUInt32 31)).toInt32).toInt) &&& Int32.ofInt 255)).toInt))) 14 1) kg_1)) _ h
def gm_82 (x1 : Int) (s : gx_S) : Option (gx_S) :=
  gm_82_3 100000 x1 24 s
theorem gf_82 {x1 : Int} {yx1 : Int32} (e1 : yx1 = Int32.ofInt x1) {s : gx_S} {σ : fx_S} (es : σ = gx s) {q : gx_S} (h : gm_82 x1 s = some q) : fm_82 yx1 σ = some (gx q) := by
  unfold gm_82 at h
  unfold fm_82
  exact gf_82_3 100000 _ _ e1 _ _ kg_24 _ _ es _ h

/-! ZoneShares$Tape.at(I)I -/
def gm_83 (x1 : Int) (s : gx_S) : Option (Int × gx_S) :=
  if (-2147483648 ≤ x1 ∧ x1 ≤ 2147483647) then (
  if x1 < 0 then (
    some ((-1), s)) else (
    if (-2147483648 ≤ (s.1 14 1) ∧ (s.1 14 1) ≤ 2147483647) then (
    if (s.1 14 1) ≤ x1 then (
      some ((-1), s)) else (
      if 0 ≤ x1 ∧ x1 < 200 then (
      some ((s.1 15 (x1).toNat), s)) else none)) else none)) else none
theorem gf_83 {x1 : Int} {yx1 : Int32} (e1 : yx1 = Int32.ofInt x1) {s : gx_S} {σ : fx_S} (es : σ = gx s) {q : Int × gx_S} (h : gm_83 x1 s = some q) : fm_83 yx1 σ = some (Int32.ofInt q.1, gx q.2) := by
  unfold gm_83 at h
  unfold fm_83
  obtain ⟨z8, h⟩ := fx_gd h
  by_cases c9 : x1 < 0
  · rw [if_pos c9] at h
    refine gb_t ((gc_lt e1 kg_0 z8 (by decide)).mpr c9) ?_
    have h := Option.some.inj h
    subst h
    exact gret kg_m1 es
  · rw [if_neg c9] at h
    refine gb_f (fun q => c9 ((gc_lt e1 kg_0 z8 (by decide)).mp q)) ?_
    obtain ⟨z10, h⟩ := fx_gd h
    by_cases c11 : (s.1 14 1) ≤ x1
    · rw [if_pos c11] at h
      refine gb_t ((gc_le (gf1 es 14 1) e1 z10 z8).mpr c11) ?_
      have h := Option.some.inj h
      subst h
      exact gret kg_m1 es
    · rw [if_neg c11] at h
      refine gb_f (fun q => c11 ((gc_le (gf1 es 14 1) e1 z10 z8).mp q)) ?_
      obtain ⟨z14, h⟩ := fx_gd h
      refine gb_bind (gl_ld es e1 ga_15 z14) ?_
      have h := Option.some.inj h
      subst h
      exact gret (gr (s.1 15 (x1).toNat)) es

/-! ZoneShares.feed(IIIII)I -/
def gm_85 (x1 : Int) (x2 : Int) (x3 : Int) (x4 : Int) (x5 : Int) (s : gx_S) : Option (Int × gx_S) :=
  if (-2147483648 ≤ ((s.1 14 1) + 20) ∧ ((s.1 14 1) + 20) ≤ 2147483647) then (
  if ((s.1 14 1) + 20) ≤ 200 then (
    (gm_82 x1 s).bind fun q16 =>
    (gm_82 x2 q16).bind fun q18 =>
    (gm_82 x3 q18).bind fun q20 =>
    (gm_82 x4 q20).bind fun q22 =>
    (gm_82 x5 q22).bind fun q24 =>
    some ((q24.1 14 1), q24)) else (
    some ((-1), s))) else none
theorem gf_85 {x1 : Int} {yx1 : Int32} (e1 : yx1 = Int32.ofInt x1) {x2 : Int} {yx2 : Int32} (e2 : yx2 = Int32.ofInt x2) {x3 : Int} {yx3 : Int32} (e3 : yx3 = Int32.ofInt x3) {x4 : Int} {yx4 : Int32} (e4 : yx4 = Int32.ofInt x4) {x5 : Int} {yx5 : Int32} (e5 : yx5 = Int32.ofInt x5) {s : gx_S} {σ : fx_S} (es : σ = gx s) {q : Int × gx_S} (h : gm_85 x1 x2 x3 x4 x5 s = some q) : fm_85 yx1 yx2 yx3 yx4 yx5 σ = some (Int32.ofInt q.1, gx q.2) := by
  unfold gm_85 at h
  unfold fm_85
  obtain ⟨z13, h⟩ := fx_gd h
  by_cases c14 : ((s.1 14 1) + 20) ≤ 200
  · rw [if_pos c14] at h
    refine gb_t ((gc_le (ga_add (gf1 es 14 1) kg_20) kg_200 z13 (by decide)).mpr c14) ?_
    obtain ⟨q16, w15, h⟩ := fx_bd h
    refine gb_bind (gf_82 e1 es w15) ?_
    obtain ⟨q18, w17, h⟩ := fx_bd h
    refine gb_bind (gf_82 e2 (rfl : _ = gx q16) w17) ?_
    obtain ⟨q20, w19, h⟩ := fx_bd h
    refine gb_bind (gf_82 e3 (rfl : _ = gx q18) w19) ?_
    obtain ⟨q22, w21, h⟩ := fx_bd h
    refine gb_bind (gf_82 e4 (rfl : _ = gx q20) w21) ?_
    obtain ⟨q24, w23, h⟩ := fx_bd h
    refine gb_bind (gf_82 e5 (rfl : _ = gx q22) w23) ?_
    have h := Option.some.inj h
    subst h
    exact gret (gf1 (rfl : _ = gx q24) 14 1) (rfl : _ = gx q24)
  · rw [if_neg c14] at h
    refine gb_f (fun q => c14 ((gc_le (ga_add (gf1 es 14 1) kg_20) kg_200 z13 (by decide)).mp q)) ?_
    have h := Option.some.inj h
    subst h
    exact gret kg_m1 es

/-! ZoneShares.end(I)I -/
def gm_86 (x1 : Int) (s : gx_S) : Option (Int × gx_S) :=
  if (-2147483648 ≤ x1 ∧ x1 ≤ 2147483647) then (
  if x1 < 0 then (
    some ((-1), s)) else (
    if (-2147483648 ≤ (s.1 14 1) ∧ (s.1 14 1) ≤ 2147483647) then (
    if x1 ≤ (s.1 14 1) then (
      some (x1, (gw1 s 14 1 x1))) else (
      some ((-1), s))) else none)) else none
theorem gf_86 {x1 : Int} {yx1 : Int32} (e1 : yx1 = Int32.ofInt x1) {s : gx_S} {σ : fx_S} (es : σ = gx s) {q : Int × gx_S} (h : gm_86 x1 s = some q) : fm_86 yx1 σ = some (Int32.ofInt q.1, gx q.2) := by
  unfold gm_86 at h
  unfold fm_86
  obtain ⟨z5, h⟩ := fx_gd h
  by_cases c6 : x1 < 0
  · rw [if_pos c6] at h
    refine gb_t ((gc_lt e1 kg_0 z5 (by decide)).mpr c6) ?_
    have h := Option.some.inj h
    subst h
    exact gret kg_m1 es
  · rw [if_neg c6] at h
    refine gb_f (fun q => c6 ((gc_lt e1 kg_0 z5 (by decide)).mp q)) ?_
    obtain ⟨z7, h⟩ := fx_gd h
    by_cases c8 : x1 ≤ (s.1 14 1)
    · rw [if_pos c8] at h
      refine gb_t ((gc_le e1 (gf1 es 14 1) z5 z7).mpr c8) ?_
      have h := Option.some.inj h
      subst h
      exact gret e1 (gx_w1 es e1)
    · rw [if_neg c8] at h
      refine gb_f (fun q => c8 ((gc_le e1 (gf1 es 14 1) z5 z7).mp q)) ?_
      have h := Option.some.inj h
      subst h
      exact gret kg_m1 es

/-! ZoneShares.cell(III)I -/
def gm_95 (x1 : Int) (x2 : Int) (x3 : Int) (s : gx_S) : Option (Int × gx_S) :=
  if (-2147483648 ≤ x1 ∧ x1 ≤ 2147483647) then (
  if x1 < 0 then (
    some ((-1), s)) else (
    if 2 < x1 then (
      some ((-1), s)) else (
      (gm_56 1 x1 s).bind fun q19 =>
      if (gb q19.1) = 0 then (
        some ((-1), q19.2)) else (
        (gm_59 1 x2 x3 q19.2).bind fun q22 =>
        if ¬ (gb q22.1) = 0 then (
          (gm_60 1 x1 ((x2 * (q22.2.1 1 5)) + x3) q22.2).bind fun q25 =>
          if ¬ x1 = 2 then (
            if (-2147483648 ≤ q25.1 ∧ q25.1 ≤ 2147483647) then (
            if ¬ q25.1 = 8 then (
              some ((97 + q25.1), q25.2)) else (
              some (46, q25.2))) else none) else (
            some ((48 + q25.1), q25.2))) else (
          some ((-1), q22.2)))))) else none
theorem gf_95 {x1 : Int} {yx1 : Int32} (e1 : yx1 = Int32.ofInt x1) {x2 : Int} {yx2 : Int32} (e2 : yx2 = Int32.ofInt x2) {x3 : Int} {yx3 : Int32} (e3 : yx3 = Int32.ofInt x3) {s : gx_S} {σ : fx_S} (es : σ = gx s) {q : Int × gx_S} (h : gm_95 x1 x2 x3 s = some q) : fm_95 yx1 yx2 yx3 σ = some (Int32.ofInt q.1, gx q.2) := by
  unfold gm_95 at h
  unfold fm_95
  obtain ⟨z15, h⟩ := fx_gd h
  by_cases c16 : x1 < 0
  · rw [if_pos c16] at h
    refine gb_t ((gc_lt e1 kg_0 z15 (by decide)).mpr c16) ?_
    have h := Option.some.inj h
    subst h
    exact gret kg_m1 es
  · rw [if_neg c16] at h
    refine gb_f (fun q => c16 ((gc_lt e1 kg_0 z15 (by decide)).mp q)) ?_
    by_cases c17 : 2 < x1
    · rw [if_pos c17] at h
      refine gb_t ((gc_lt kg_2 e1 (by decide) z15).mpr c17) ?_
      have h := Option.some.inj h
      subst h
      exact gret kg_m1 es
    · rw [if_neg c17] at h
      refine gb_f (fun q => c17 ((gc_lt kg_2 e1 (by decide) z15).mp q)) ?_
      obtain ⟨q19, w18, h⟩ := fx_bd h
      refine gb_bind (gf_56 e1 es w18) ?_
      by_cases c20 : (gb q19.1) = 0
      · rw [if_pos c20] at h
        refine gb_t ((gc_eq (gb_b q19.1) kg_0 (gb_r _) (by decide)).mpr c20) ?_
        have h := Option.some.inj h
        subst h
        exact gret kg_m1 (rfl : _ = gx q19.2)
      · rw [if_neg c20] at h
        refine gb_f (fun q => c20 ((gc_eq (gb_b q19.1) kg_0 (gb_r _) (by decide)).mp q)) ?_
        obtain ⟨q22, w21, h⟩ := fx_bd h
        refine gb_bind (gf_59 e2 e3 (rfl : _ = gx q19.2) w21) ?_
        by_cases c23 : ¬ (gb q22.1) = 0
        · rw [if_pos c23] at h
          refine gb_t ((gc_ne (gb_b q22.1) kg_0 (gb_r _) (by decide)).mpr c23) ?_
          obtain ⟨q25, w24, h⟩ := fx_bd h
          refine gb_bind (gf_60 e1 (ga_add (ga_mul e2 (gf1 (rfl : _ = gx q22.2) 1 5)) e3) (rfl : _ = gx q22.2) w24) ?_
          by_cases c26 : ¬ x1 = 2
          · rw [if_pos c26] at h
            refine gb_t ((gc_ne e1 kg_2 z15 (by decide)).mpr c26) ?_
            obtain ⟨z27, h⟩ := fx_gd h
            by_cases c28 : ¬ q25.1 = 8
            · rw [if_pos c28] at h
              refine gb_t ((gc_ne (gr q25.1) kg_8 z27 (by decide)).mpr c28) ?_
              have h := Option.some.inj h
              subst h
              exact gret (ga_add kg_97 (gr q25.1)) (rfl : _ = gx q25.2)
            · rw [if_neg c28] at h
              refine gb_f (fun q => c28 ((gc_ne (gr q25.1) kg_8 z27 (by decide)).mp q)) ?_
              have h := Option.some.inj h
              subst h
              exact gret kg_46 (rfl : _ = gx q25.2)
          · rw [if_neg c26] at h
            refine gb_f (fun q => c26 ((gc_ne e1 kg_2 z15 (by decide)).mp q)) ?_
            have h := Option.some.inj h
            subst h
            exact gret (ga_add kg_48 (gr q25.1)) (rfl : _ = gx q25.2)
        · rw [if_neg c23] at h
          refine gb_f (fun q => c23 ((gc_ne (gb_b q22.1) kg_0 (gb_r _) (by decide)).mp q)) ?_
          have h := Option.some.inj h
          subst h
          exact gret kg_m1 (rfl : _ = gx q22.2)

/-! ZoneShares.isGroup(I)Z -/
def gm_114 (x0 : Int) (s : gx_S) : Option (Bool × gx_S) :=
  if (-2147483648 ≤ x0 ∧ x0 ≤ 2147483647) then (
  if x0 < 0 then (
    some (false, s)) else (
    if 3 ≤ x0 then (
      some (false, s)) else (
      some (true, s)))) else none
theorem gf_114 {x0 : Int} {yx0 : Int32} (e0 : yx0 = Int32.ofInt x0) {s : gx_S} {σ : fx_S} (es : σ = gx s) {q : Bool × gx_S} (h : gm_114 x0 s = some q) : fm_114 yx0 σ = some (q.1, gx q.2) := by
  unfold gm_114 at h
  unfold fm_114
  obtain ⟨z4, h⟩ := fx_gd h
  by_cases c5 : x0 < 0
  · rw [if_pos c5] at h
    refine gb_t ((gc_lt e0 kg_0 z4 (by decide)).mpr c5) ?_
    have h := Option.some.inj h
    subst h
    exact gretb es
  · rw [if_neg c5] at h
    refine gb_f (fun q => c5 ((gc_lt e0 kg_0 z4 (by decide)).mp q)) ?_
    by_cases c6 : 3 ≤ x0
    · rw [if_pos c6] at h
      refine gb_t ((gc_le kg_3 e0 (by decide) z4).mpr c6) ?_
      have h := Option.some.inj h
      subst h
      exact gretb es
    · rw [if_neg c6] at h
      refine gb_f (fun q => c6 ((gc_le kg_3 e0 (by decide) z4).mp q)) ?_
      have h := Option.some.inj h
      subst h
      exact gretb es

/-! ZoneShares.isZone(I)Z -/
def gm_115 (x0 : Int) (s : gx_S) : Option (Bool × gx_S) :=
  if (-2147483648 ≤ x0 ∧ x0 ≤ 2147483647) then (
  if x0 < 0 then (
    some (false, s)) else (
    if 8 ≤ x0 then (
      some (false, s)) else (
      some (true, s)))) else none
theorem gf_115 {x0 : Int} {yx0 : Int32} (e0 : yx0 = Int32.ofInt x0) {s : gx_S} {σ : fx_S} (es : σ = gx s) {q : Bool × gx_S} (h : gm_115 x0 s = some q) : fm_115 yx0 σ = some (q.1, gx q.2) := by
  unfold gm_115 at h
  unfold fm_115
  obtain ⟨z4, h⟩ := fx_gd h
  by_cases c5 : x0 < 0
  · rw [if_pos c5] at h
    refine gb_t ((gc_lt e0 kg_0 z4 (by decide)).mpr c5) ?_
    have h := Option.some.inj h
    subst h
    exact gretb es
  · rw [if_neg c5] at h
    refine gb_f (fun q => c5 ((gc_lt e0 kg_0 z4 (by decide)).mp q)) ?_
    by_cases c6 : 8 ≤ x0
    · rw [if_pos c6] at h
      refine gb_t ((gc_le kg_8 e0 (by decide) z4).mpr c6) ?_
      have h := Option.some.inj h
      subst h
      exact gretb es
    · rw [if_neg c6] at h
      refine gb_f (fun q => c6 ((gc_le kg_8 e0 (by decide) z4).mp q)) ?_
      have h := Option.some.inj h
      subst h
      exact gretb es

/-! ZoneShares.isLand(I)Z -/
def gm_116 (x0 : Int) (s : gx_S) : Option (Bool × gx_S) :=
  if (-2147483648 ≤ x0 ∧ x0 ≤ 2147483647) then (
  if x0 < 0 then (
    some (false, s)) else (
    if 4 ≤ x0 then (
      some (false, s)) else (
      some (true, s)))) else none
theorem gf_116 {x0 : Int} {yx0 : Int32} (e0 : yx0 = Int32.ofInt x0) {s : gx_S} {σ : fx_S} (es : σ = gx s) {q : Bool × gx_S} (h : gm_116 x0 s = some q) : fm_116 yx0 σ = some (q.1, gx q.2) := by
  unfold gm_116 at h
  unfold fm_116
  obtain ⟨z4, h⟩ := fx_gd h
  by_cases c5 : x0 < 0
  · rw [if_pos c5] at h
    refine gb_t ((gc_lt e0 kg_0 z4 (by decide)).mpr c5) ?_
    have h := Option.some.inj h
    subst h
    exact gretb es
  · rw [if_neg c5] at h
    refine gb_f (fun q => c5 ((gc_lt e0 kg_0 z4 (by decide)).mp q)) ?_
    by_cases c6 : 4 ≤ x0
    · rw [if_pos c6] at h
      refine gb_t ((gc_le kg_4 e0 (by decide) z4).mpr c6) ?_
      have h := Option.some.inj h
      subst h
      exact gretb es
    · rw [if_neg c6] at h
      refine gb_f (fun q => c6 ((gc_le kg_4 e0 (by decide) z4).mp q)) ?_
      have h := Option.some.inj h
      subst h
      exact gretb es

/-! ZoneShares.isDistrict(I)Z -/
def gm_117 (x0 : Int) (s : gx_S) : Option (Bool × gx_S) :=
  if (-2147483648 ≤ x0 ∧ x0 ≤ 2147483647) then (
  if x0 < 0 then (
    some (false, s)) else (
    if 4 ≤ x0 then (
      some (false, s)) else (
      some (true, s)))) else none
theorem gf_117 {x0 : Int} {yx0 : Int32} (e0 : yx0 = Int32.ofInt x0) {s : gx_S} {σ : fx_S} (es : σ = gx s) {q : Bool × gx_S} (h : gm_117 x0 s = some q) : fm_117 yx0 σ = some (q.1, gx q.2) := by
  unfold gm_117 at h
  unfold fm_117
  obtain ⟨z4, h⟩ := fx_gd h
  by_cases c5 : x0 < 0
  · rw [if_pos c5] at h
    refine gb_t ((gc_lt e0 kg_0 z4 (by decide)).mpr c5) ?_
    have h := Option.some.inj h
    subst h
    exact gretb es
  · rw [if_neg c5] at h
    refine gb_f (fun q => c5 ((gc_lt e0 kg_0 z4 (by decide)).mp q)) ?_
    by_cases c6 : 4 ≤ x0
    · rw [if_pos c6] at h
      refine gb_t ((gc_le kg_4 e0 (by decide) z4).mpr c6) ?_
      have h := Option.some.inj h
      subst h
      exact gretb es
    · rw [if_neg c6] at h
      refine gb_f (fun q => c6 ((gc_le kg_4 e0 (by decide) z4).mp q)) ?_
      have h := Option.some.inj h
      subst h
      exact gretb es

/-! ZoneShares.isTarget(II)Z -/
def gm_118 (x1 : Int) (x2 : Int) (s : gx_S) : Option (Bool × gx_S) :=
  (gm_114 x1 s).bind fun q11 =>
  if (gb q11.1) = 0 then (
    some (false, q11.2)) else (
    if (-2147483648 ≤ x2 ∧ x2 ≤ 2147483647) then (
    if x2 < 0 then (
      some (false, q11.2)) else (
      if 8 < x2 then (
        some (false, q11.2)) else (
        (gm_57 1 q11.2).bind fun q17 =>
        if (gb q17.1) = 0 then (
          some (false, q17.2)) else (
          some (true, q17.2))))) else none)
theorem gf_118 {x1 : Int} {yx1 : Int32} (e1 : yx1 = Int32.ofInt x1) {x2 : Int} {yx2 : Int32} (e2 : yx2 = Int32.ofInt x2) {s : gx_S} {σ : fx_S} (es : σ = gx s) {q : Bool × gx_S} (h : gm_118 x1 x2 s = some q) : fm_118 yx1 yx2 σ = some (q.1, gx q.2) := by
  unfold gm_118 at h
  unfold fm_118
  obtain ⟨q11, w10, h⟩ := fx_bd h
  refine gb_bind (gf_114 e1 es w10) ?_
  by_cases c12 : (gb q11.1) = 0
  · rw [if_pos c12] at h
    refine gb_t ((gc_eq (gb_b q11.1) kg_0 (gb_r _) (by decide)).mpr c12) ?_
    have h := Option.some.inj h
    subst h
    exact gretb (rfl : _ = gx q11.2)
  · rw [if_neg c12] at h
    refine gb_f (fun q => c12 ((gc_eq (gb_b q11.1) kg_0 (gb_r _) (by decide)).mp q)) ?_
    obtain ⟨z13, h⟩ := fx_gd h
    by_cases c14 : x2 < 0
    · rw [if_pos c14] at h
      refine gb_t ((gc_lt e2 kg_0 z13 (by decide)).mpr c14) ?_
      have h := Option.some.inj h
      subst h
      exact gretb (rfl : _ = gx q11.2)
    · rw [if_neg c14] at h
      refine gb_f (fun q => c14 ((gc_lt e2 kg_0 z13 (by decide)).mp q)) ?_
      by_cases c15 : 8 < x2
      · rw [if_pos c15] at h
        refine gb_t ((gc_lt kg_8 e2 (by decide) z13).mpr c15) ?_
        have h := Option.some.inj h
        subst h
        exact gretb (rfl : _ = gx q11.2)
      · rw [if_neg c15] at h
        refine gb_f (fun q => c15 ((gc_lt kg_8 e2 (by decide) z13).mp q)) ?_
        obtain ⟨q17, w16, h⟩ := fx_bd h
        refine gb_bind (gf_57 (rfl : _ = gx q11.2) w16) ?_
        by_cases c18 : (gb q17.1) = 0
        · rw [if_pos c18] at h
          refine gb_t ((gc_eq (gb_b q17.1) kg_0 (gb_r _) (by decide)).mpr c18) ?_
          have h := Option.some.inj h
          subst h
          exact gretb (rfl : _ = gx q17.2)
        · rw [if_neg c18] at h
          refine gb_f (fun q => c18 ((gc_eq (gb_b q17.1) kg_0 (gb_r _) (by decide)).mp q)) ?_
          have h := Option.some.inj h
          subst h
          exact gretb (rfl : _ = gx q17.2)

/-! ZoneShares.forgetTables()V -/
def gm_120_2 : Nat → Int → gx_S → Option (gx_S)
  | 0, _, _ => none
  | n + 1, x1, s =>
    if (-2147483648 ≤ x1 ∧ x1 ≤ 2147483647) then (
    if 3 ≤ x1 then (
      some s) else (
      if 0 ≤ x1 ∧ x1 < 3 then (
      (some (fx_rf 70 (x1).toNat)).bind fun v3 =>
      gm_120_2 n (x1 + 1) (gw1 s v3 8 0)) else none)) else none
theorem gf_120_2 : ∀ (n : Nat) (x1 : Int) (yx1 : Int32) (e1 : yx1 = Int32.ofInt x1) (s : gx_S) (σ : fx_S) (es : σ = gx s) (q : gx_S), gm_120_2 n x1 s = some q → fm_120_2 n yx1 σ = some (gx q) := by
  intro n
  induction n with
  | zero =>
    intro x1 yx1 e1 s σ es q  h
    rw [gm_120_2] at h
    exact fx_no h
  | succ n ih =>
    intro x1 yx1 e1 s σ es q  h
    rw [gm_120_2] at h
    rw [fm_120_2]
    obtain ⟨z1, h⟩ := fx_gd h
    by_cases c2 : 3 ≤ x1
    · rw [if_pos c2] at h
      refine gb_t ((gc_le kg_3 e1 (by decide) z1).mpr c2) ?_
      have h := Option.some.inj h
      subst h
      exact gretv es
    · rw [if_neg c2] at h
      refine gb_f (fun q => c2 ((gc_le kg_3 e1 (by decide) z1).mp q)) ?_
      obtain ⟨z6, h⟩ := fx_gd h
      obtain ⟨v3, w4, h⟩ := fx_bd h
      have g5 := fa_70 ((gl_ldr (t := 4) e1 ga_70 z6).trans w4)
      refine gb_bind ((gl_ldr e1 ga_70 z6).trans w4) ?_
      exact ih _ _ (ga_add e1 kg_1) _ _ (gx_w1 es kg_0) _ h
def gm_120 (s : gx_S) : Option (gx_S) :=
  gm_120_2 100000 0 s
theorem gf_120 {s : gx_S} {σ : fx_S} (es : σ = gx s) {q : gx_S} (h : gm_120 s = some q) : fm_120 σ = some (gx q) := by
  unfold gm_120 at h
  unfold fm_120
  exact gf_120_2 100000 _ _ kg_0 _ _ es _ h

/-! ZoneShares.adoptCounts(I)I -/
def gm_122_12 : Nat → Int → Nat → Int → Int → gx_S → Option (Int × gx_S)
  | 0, _, _, _, _, _ => none
  | n + 1, x1, x2, x3, x4, s =>
    if (-2147483648 ≤ x4 ∧ x4 ≤ 2147483647) then (
    if 8 ≤ x4 then (
      (gm_76 (x2 + 3) 8 s).bind fun q4 =>
      if 0 ≤ ((x1 * 9) + 8) ∧ ((x1 * 9) + 8) < 27 then (
      some (x3, (gw1 q4.2 3 (((x1 * 9) + 8)).toNat (q4.1 + (q4.2.1 x2 7))))) else none) else (
      (gm_76 (x2 + 3) x4 s).bind fun q9 =>
      if 0 ≤ ((x1 * 9) + x4) ∧ ((x1 * 9) + x4) < 27 then (
      gm_122_12 n x1 x2 (x3 + q9.1) (x4 + 1) (gw1 q9.2 3 (((x1 * 9) + x4)).toNat q9.1)) else none)) else none
theorem gf_122_12 : ∀ (n : Nat) (x1 : Int) (yx1 : Int32) (e1 : yx1 = Int32.ofInt x1) (x2 : Nat) (x3 : Int) (yx3 : Int32) (e3 : yx3 = Int32.ofInt x3) (x4 : Int) (yx4 : Int32) (e4 : yx4 = Int32.ofInt x4) (s : gx_S) (σ : fx_S) (es : σ = gx s) (q : Int × gx_S) (g2 : fx_oc x2 2 = true), gm_122_12 n x1 x2 x3 x4 s = some q → fm_122_12 n yx1 x2 yx3 yx4 σ = some (Int32.ofInt q.1, gx q.2) := by
  intro n
  induction n with
  | zero =>
    intro x1 yx1 e1 x2 x3 yx3 e3 x4 yx4 e4 s σ es q g2 h
    rw [gm_122_12] at h
    exact fx_no h
  | succ n ih =>
    intro x1 yx1 e1 x2 x3 yx3 e3 x4 yx4 e4 s σ es q g2 h
    rw [gm_122_12] at h
    rw [fm_122_12]
    obtain ⟨z1, h⟩ := fx_gd h
    by_cases c2 : 8 ≤ x4
    · rw [if_pos c2] at h
      refine gb_t ((gc_le kg_8 e4 (by decide) z1).mpr c2) ?_
      obtain ⟨q4, w3, h⟩ := fx_bd h
      refine gb_bind (gf_76 kg_8 es w3) ?_
      obtain ⟨z7, h⟩ := fx_gd h
      refine gb_bind (gl_st (rfl : _ = gx q4.2) (ga_add (ga_mul e1 kg_9) kg_8) (ga_add (gr q4.1) (gf1 (rfl : _ = gx q4.2) x2 7)) ga_3 z7) ?_
      have h := Option.some.inj h
      subst h
      exact gret e3 (rfl : _ = gx (gw1 q4.2 3 (((x1 * 9) + 8)).toNat (q4.1 + (q4.2.1 x2 7))))
    · rw [if_neg c2] at h
      refine gb_f (fun q => c2 ((gc_le kg_8 e4 (by decide) z1).mp q)) ?_
      obtain ⟨q9, w8, h⟩ := fx_bd h
      refine gb_bind (gf_76 e4 es w8) ?_
      obtain ⟨z12, h⟩ := fx_gd h
      refine gb_bind (gl_st (rfl : _ = gx q9.2) (ga_add (ga_mul e1 kg_9) e4) (gr q9.1) ga_3 z12) ?_
      exact ih _ _ e1 _ _ _ (ga_add e3 (gr q9.1)) _ _ (ga_add e4 kg_1) _ _ (rfl : _ = gx (gw1 q9.2 3 (((x1 * 9) + x4)).toNat q9.1)) _ g2 h
def gm_122 (x1 : Int) (s : gx_S) : Option (Int × gx_S) :=
  if 0 ≤ x1 ∧ x1 < 3 then (
  (some (fx_rf 70 (x1).toNat)).bind fun v29 =>
  gm_122_12 100000 x1 v29 0 0 s) else none
theorem gf_122 {x1 : Int} {yx1 : Int32} (e1 : yx1 = Int32.ofInt x1) {s : gx_S} {σ : fx_S} (es : σ = gx s) {q : Int × gx_S} (h : gm_122 x1 s = some q) : fm_122 yx1 σ = some (Int32.ofInt q.1, gx q.2) := by
  unfold gm_122 at h
  unfold fm_122
  obtain ⟨z32, h⟩ := fx_gd h
  obtain ⟨v29, w30, h⟩ := fx_bd h
  have g31 := fa_70 ((gl_ldr (t := 4) e1 ga_70 z32).trans w30)
  refine gb_bind ((gl_ldr e1 ga_70 z32).trans w30) ?_
  exact gf_122_12 100000 _ _ e1 _ _ _ kg_0 _ _ kg_0 _ _ es _ g31 h

/-! ZoneShares.placeOfPiece(I)I -/
def gm_124_29 (k_4 : Int → Int → gx_S → Option (Int × gx_S)) (x2 : Int) (x3 : Int) (s : gx_S) : Option (Int × gx_S) :=
  k_4 x2 (x3 + 1) s
theorem gf_124_29 {kf_4 : Int32 → Int32 → fx_S → Option (Int32 × fx_S)} {kg_4 : Int → Int → gx_S → Option (Int × gx_S)} (hk_4 : ∀ (x2 : Int) (yx2 : Int32) (e2 : yx2 = Int32.ofInt x2) (x3 : Int) (yx3 : Int32) (e3 : yx3 = Int32.ofInt x3) (s : gx_S) (σ : fx_S) (es : σ = gx s) (q : Int × gx_S), kg_4 x2 x3 s = some q → kf_4 yx2 yx3 σ = some (Int32.ofInt q.1, gx q.2)) (x2 : Int) (yx2 : Int32) (e2 : yx2 = Int32.ofInt x2) (x3 : Int) (yx3 : Int32) (e3 : yx3 = Int32.ofInt x3) (s : gx_S) (σ : fx_S) (es : σ = gx s) (q : Int × gx_S) (h : gm_124_29 kg_4 x2 x3 s = some q) : fm_124_29 kf_4 yx2 yx3 σ = some (Int32.ofInt q.1, gx q.2) := by
  unfold gm_124_29 at h
  unfold fm_124_29
  exact hk_4 _ _ e2 _ _ (ga_add e3 kg_1) _ _ es _ h
def gm_124_4 : Nat → Int → Int → gx_S → Option (Int × gx_S)
  | 0, _, _, _ => none
  | n + 1, x2, x3, s =>
    if (-2147483648 ≤ x3 ∧ x3 ≤ 2147483647) then (
    if 288 ≤ x3 then (
      some (0, s)) else (
      if 0 ≤ x3 ∧ x3 < 288 then (
      if (-2147483648 ≤ (s.1 69 (x3).toNat) ∧ (s.1 69 (x3).toNat) ≤ 2147483647) then (
      if (s.1 69 (x3).toNat) ≤ 0 then (
        gm_124_29 (gm_124_4 n) x2 x3 s) else (
        if (-2147483648 ≤ x2 ∧ x2 ≤ 2147483647) then (
        if ¬ x2 = 0 then (
          gm_124_29 (gm_124_4 n) (x2 + (-1)) x3 s) else (
          some (x3, s))) else none)) else none) else none)) else none
theorem gf_124_4 : ∀ (n : Nat) (x2 : Int) (yx2 : Int32) (e2 : yx2 = Int32.ofInt x2) (x3 : Int) (yx3 : Int32) (e3 : yx3 = Int32.ofInt x3) (s : gx_S) (σ : fx_S) (es : σ = gx s) (q : Int × gx_S), gm_124_4 n x2 x3 s = some q → fm_124_4 n yx2 yx3 σ = some (Int32.ofInt q.1, gx q.2) := by
  intro n
  induction n with
  | zero =>
    intro x2 yx2 e2 x3 yx3 e3 s σ es q  h
    rw [gm_124_4] at h
    exact fx_no h
  | succ n ih =>
    intro x2 yx2 e2 x3 yx3 e3 s σ es q  h
    rw [gm_124_4] at h
    rw [fm_124_4]
    obtain ⟨z1, h⟩ := fx_gd h
    by_cases c2 : 288 ≤ x3
    · rw [if_pos c2] at h
      refine gb_t ((gc_le kg_288 e3 (by decide) z1).mpr c2) ?_
      have h := Option.some.inj h
      subst h
      exact gret kg_0 es
    · rw [if_neg c2] at h
      refine gb_f (fun q => c2 ((gc_le kg_288 e3 (by decide) z1).mp q)) ?_
      obtain ⟨z5, h⟩ := fx_gd h
      refine gb_bind (gl_ld es e3 ga_69 z5) ?_
      obtain ⟨z6, h⟩ := fx_gd h
      by_cases c7 : (s.1 69 (x3).toNat) ≤ 0
      · rw [if_pos c7] at h
        refine gb_t ((gc_le (gr (s.1 69 (x3).toNat)) kg_0 z6 (by decide)).mpr c7) ?_
        exact gf_124_29 ih _ _ e2 _ _ e3 _ _ es _ h
      · rw [if_neg c7] at h
        refine gb_f (fun q => c7 ((gc_le (gr (s.1 69 (x3).toNat)) kg_0 z6 (by decide)).mp q)) ?_
        obtain ⟨z8, h⟩ := fx_gd h
        by_cases c9 : ¬ x2 = 0
        · rw [if_pos c9] at h
          refine gb_t ((gc_ne e2 kg_0 z8 (by decide)).mpr c9) ?_
          exact gf_124_29 ih _ _ (ga_add e2 kg_m1) _ _ e3 _ _ es _ h
        · rw [if_neg c9] at h
          refine gb_f (fun q => c9 ((gc_ne e2 kg_0 z8 (by decide)).mp q)) ?_
          have h := Option.some.inj h
          subst h
          exact gret e3 es
def gm_124 (x1 : Int) (s : gx_S) : Option (Int × gx_S) :=
  gm_124_4 100000 x1 0 s
theorem gf_124 {x1 : Int} {yx1 : Int32} (e1 : yx1 = Int32.ofInt x1) {s : gx_S} {σ : fx_S} (es : σ = gx s) {q : Int × gx_S} (h : gm_124 x1 s = some q) : fm_124 yx1 σ = some (Int32.ofInt q.1, gx q.2) := by
  unfold gm_124 at h
  unfold fm_124
  exact gf_124_4 100000 _ _ e1 _ _ kg_0 _ _ es _ h

/-! ZoneShares.gcd(JJ)J -/
def gm_128_44 (x4 : Int) (s : gx_S) : Option (Int × gx_S) :=
  some (x4, s)
theorem gf_128_44 (x4 : Int) (yx4 : Int64) (e4 : yx4 = Int64.ofInt x4) (s : gx_S) (σ : fx_S) (es : σ = gx s) (q : Int × gx_S) (h : gm_128_44 x4 s = some q) : fm_128_44 yx4 σ = some (Int64.ofInt q.1, gx q.2) := by
  unfold gm_128_44 at h
  unfold fm_128_44
  have h := Option.some.inj h
  subst h
  exact gretl e4 es
def gm_128_9 : Nat → Int → Int → Int → gx_S → Option (Int × gx_S)
  | 0, _, _, _, _ => none
  | n + 1, x4, x6, x8, s =>
    if (-2147483648 ≤ x8 ∧ x8 ≤ 2147483647) then (
    if 100 ≤ x8 then (
      gm_128_44 x4 s) else (
      if (-9223372036854775808 ≤ x6 ∧ x6 ≤ 9223372036854775807) then (
      if x6 = 0 then (
        gm_128_44 x4 s) else (
        if 0 ≤ x4 ∧ x4 ≤ 9223372036854775807 ∧ 0 < x6 ∧ x6 ≤ 9223372036854775807 then (
        gm_128_9 n x6 (x4 % x6) (x8 + 1) s) else none)) else none)) else none
theorem gf_128_9 : ∀ (n : Nat) (x4 : Int) (yx4 : Int64) (e4 : yx4 = Int64.ofInt x4) (x6 : Int) (yx6 : Int64) (e6 : yx6 = Int64.ofInt x6) (x8 : Int) (yx8 : Int32) (e8 : yx8 = Int32.ofInt x8) (s : gx_S) (σ : fx_S) (es : σ = gx s) (q : Int × gx_S), gm_128_9 n x4 x6 x8 s = some q → fm_128_9 n yx4 yx6 yx8 σ = some (Int64.ofInt q.1, gx q.2) := by
  intro n
  induction n with
  | zero =>
    intro x4 yx4 e4 x6 yx6 e6 x8 yx8 e8 s σ es q  h
    rw [gm_128_9] at h
    exact fx_no h
  | succ n ih =>
    intro x4 yx4 e4 x6 yx6 e6 x8 yx8 e8 s σ es q  h
    rw [gm_128_9] at h
    rw [fm_128_9]
    obtain ⟨z1, h⟩ := fx_gd h
    by_cases c2 : 100 ≤ x8
    · rw [if_pos c2] at h
      refine gb_t ((gc_le kg_100 e8 (by decide) z1).mpr c2) ?_
      exact gf_128_44 _ _ e4 _ _ es _ h
    · rw [if_neg c2] at h
      refine gb_f (fun q => c2 ((gc_le kg_100 e8 (by decide) z1).mp q)) ?_
      obtain ⟨z3, h⟩ := fx_gd h
      by_cases c4 : x6 = 0
      · rw [if_pos c4] at h
        refine gb_t ((gcl_eq e6 kgl_0 z3 (by decide)).mpr c4) ?_
        exact gf_128_44 _ _ e4 _ _ es _ h
      · rw [if_neg c4] at h
        refine gb_f (fun q => c4 ((gcl_eq e6 kgl_0 z3 (by decide)).mp q)) ?_
        obtain ⟨z5, h⟩ := fx_gd h
        refine gb_t (gcl_nz e6 z5) ?_
        exact ih _ _ e6 _ _ (gal_rem e4 e6 z5) _ _ (ga_add e8 kg_1) _ _ es _ h
def gm_128 (x0 : Int) (x2 : Int) (s : gx_S) : Option (Int × gx_S) :=
  gm_128_9 100000 x0 x2 0 s
theorem gf_128 {x0 : Int} {yx0 : Int64} (e0 : yx0 = Int64.ofInt x0) {x2 : Int} {yx2 : Int64} (e2 : yx2 = Int64.ofInt x2) {s : gx_S} {σ : fx_S} (es : σ = gx s) {q : Int × gx_S} (h : gm_128 x0 x2 s = some q) : fm_128 yx0 yx2 σ = some (Int64.ofInt q.1, gx q.2) := by
  unfold gm_128 at h
  unfold fm_128
  exact gf_128_9 100000 _ _ e0 _ _ e2 _ _ kg_0 _ _ es _ h
end
section
/-! ZoneSharesModel.in(JJJ)Z -/
def gm_130 (x0 : Int) (x2 : Int) (x4 : Int) (s : gx_S) : Option (Bool × gx_S) :=
  if (-9223372036854775808 ≤ x0 ∧ x0 ≤ 9223372036854775807) then (
  if (-9223372036854775808 ≤ x2 ∧ x2 ≤ 9223372036854775807) then (
  if x0 < x2 then (
    some (false, s)) else (
    if (-9223372036854775808 ≤ x4 ∧ x4 ≤ 9223372036854775807) then (
    if x4 < x0 then (
      some (false, s)) else (
      some (true, s))) else none)) else none) else none
theorem gf_130 {x0 : Int} {yx0 : Int64} (e0 : yx0 = Int64.ofInt x0) {x2 : Int} {yx2 : Int64} (e2 : yx2 = Int64.ofInt x2) {x4 : Int} {yx4 : Int64} (e4 : yx4 = Int64.ofInt x4) {s : gx_S} {σ : fx_S} (es : σ = gx s) {q : Bool × gx_S} (h : gm_130 x0 x2 x4 s = some q) : fm_130 yx0 yx2 yx4 σ = some (q.1, gx q.2) := by
  unfold gm_130 at h
  unfold fm_130
  obtain ⟨z6, h⟩ := fx_gd h
  obtain ⟨z7, h⟩ := fx_gd h
  by_cases c8 : x0 < x2
  · rw [if_pos c8] at h
    refine gb_t ((gcl_lt e0 e2 z6 z7).mpr c8) ?_
    have h := Option.some.inj h
    subst h
    exact gretb es
  · rw [if_neg c8] at h
    refine gb_f (fun q => c8 ((gcl_lt e0 e2 z6 z7).mp q)) ?_
    obtain ⟨z9, h⟩ := fx_gd h
    by_cases c10 : x4 < x0
    · rw [if_pos c10] at h
      refine gb_t ((gcl_lt e4 e0 z9 z6).mpr c10) ?_
      have h := Option.some.inj h
      subst h
      exact gretb es
    · rw [if_neg c10] at h
      refine gb_f (fun q => c10 ((gcl_lt e4 e0 z9 z6).mp q)) ?_
      have h := Option.some.inj h
      subst h
      exact gretb es

/-! ZoneSharesModel.truth(Z)I -/
def gm_131 (x0 : Int) (s : gx_S) : Option (Int × gx_S) :=
  if (-2147483648 ≤ x0 ∧ x0 ≤ 2147483647) then (
  if x0 = 0 then (
    some (0, s)) else (
    some (1, s))) else none
theorem gf_131 {x0 : Int} {yx0 : Int32} (e0 : yx0 = Int32.ofInt x0) {s : gx_S} {σ : fx_S} (es : σ = gx s) {q : Int × gx_S} (h : gm_131 x0 s = some q) : fm_131 yx0 σ = some (Int32.ofInt q.1, gx q.2) := by
  unfold gm_131 at h
  unfold fm_131
  obtain ⟨z3, h⟩ := fx_gd h
  by_cases c4 : x0 = 0
  · rw [if_pos c4] at h
    refine gb_t ((gc_eq e0 kg_0 z3 (by decide)).mpr c4) ?_
    have h := Option.some.inj h
    subst h
    exact gret kg_0 es
  · rw [if_neg c4] at h
    refine gb_f (fun q => c4 ((gc_eq e0 kg_0 z3 (by decide)).mp q)) ?_
    have h := Option.some.inj h
    subst h
    exact gret kg_1 es

/-! ZoneSharesModel.remembers()V -/
def gm_132_54 : Nat → Int → gx_S → Option (gx_S)
  | 0, _, _ => none
  | n + 1, x1, s =>
    if (-2147483648 ≤ x1 ∧ x1 ≤ 2147483647) then (
    if 340 ≤ x1 then (
      some (gw1 s 215 2 ((s.1 215 2) + 1))) else (
      if 0 ≤ x1 ∧ x1 < 340 then (
      if 0 ≤ ((340 * (s.1 215 2)) + x1) ∧ ((340 * (s.1 215 2)) + x1) < 2720 then (
      gm_132_54 n (x1 + 1) (gw1 s 217 (((340 * (s.1 215 2)) + x1)).toNat (s.1 216 (x1).toNat))) else none) else none)) else none
theorem gf_132_54 : ∀ (n : Nat) (x1 : Int) (yx1 : Int32) (e1 : yx1 = Int32.ofInt x1) (s : gx_S) (σ : fx_S) (es : σ = gx s) (q : gx_S), gm_132_54 n x1 s = some q → fm_132_54 n yx1 σ = some (gx q) := by
  intro n
  induction n with
  | zero =>
    intro x1 yx1 e1 s σ es q  h
    rw [gm_132_54] at h
    exact fx_no h
  | succ n ih =>
    intro x1 yx1 e1 s σ es q  h
    rw [gm_132_54] at h
    rw [fm_132_54]
    obtain ⟨z1, h⟩ := fx_gd h
    by_cases c2 : 340 ≤ x1
    · rw [if_pos c2] at h
      refine gb_t ((gc_le kg_340 e1 (by decide) z1).mpr c2) ?_
      have h := Option.some.inj h
      subst h
      exact gretv (gx_w1 es (ga_add (gf1 es 215 2) kg_1))
    · rw [if_neg c2] at h
      refine gb_f (fun q => c2 ((gc_le kg_340 e1 (by decide) z1).mp q)) ?_
      obtain ⟨z5, h⟩ := fx_gd h
      refine gb_bind (gl_ld es e1 ga_216 z5) ?_
      obtain ⟨z8, h⟩ := fx_gd h
      refine gb_bind (gl_st es (ga_add (ga_mul kg_340 (gf1 es 215 2)) e1) (gr (s.1 216 (x1).toNat)) ga_217 z8) ?_
      exact ih _ _ (ga_add e1 kg_1) _ _ (rfl : _ = gx (gw1 s 217 (((340 * (s.1 215 2)) + x1)).toNat (s.1 216 (x1).toNat))) _ h
def gm_132_52 (s : gx_S) : Option (gx_S) :=
  gm_132_54 100000 0 s
theorem gf_132_52 (s : gx_S) (σ : fx_S) (es : σ = gx s) (q : gx_S) (h : gm_132_52 s = some q) : fm_132_52 σ = some (gx q) := by
  unfold gm_132_52 at h
  unfold fm_132_52
  exact gf_132_54 100000 _ _ kg_0 _ _ es _ h
def gm_132_13 : Nat → Int → gx_S → Option (gx_S)
  | 0, _, _ => none
  | n + 1, x1, s =>
    if (-2147483648 ≤ x1 ∧ x1 ≤ 2147483647) then (
    if 2720 ≤ x1 then (
      gm_132_52 (gw1 s 215 2 ((s.1 215 2) - 1))) else (
      if 0 ≤ x1 ∧ x1 < 2720 then (
      if 0 ≤ (x1 - 340) ∧ (x1 - 340) < 2720 then (
      gm_132_13 n (x1 + 1) (gw1 s 217 ((x1 - 340)).toNat (s.1 217 (x1).toNat))) else none) else none)) else none
theorem gf_132_13 : ∀ (n : Nat) (x1 : Int) (yx1 : Int32) (e1 : yx1 = Int32.ofInt x1) (s : gx_S) (σ : fx_S) (es : σ = gx s) (q : gx_S), gm_132_13 n x1 s = some q → fm_132_13 n yx1 σ = some (gx q) := by
  intro n
  induction n with
  | zero =>
    intro x1 yx1 e1 s σ es q  h
    rw [gm_132_13] at h
    exact fx_no h
  | succ n ih =>
    intro x1 yx1 e1 s σ es q  h
    rw [gm_132_13] at h
    rw [fm_132_13]
    obtain ⟨z1, h⟩ := fx_gd h
    by_cases c2 : 2720 ≤ x1
    · rw [if_pos c2] at h
      refine gb_t ((gc_le kg_2720 e1 (by decide) z1).mpr c2) ?_
      exact gf_132_52 _ _ (gx_w1 es (ga_sub (gf1 es 215 2) kg_1)) _ h
    · rw [if_neg c2] at h
      refine gb_f (fun q => c2 ((gc_le kg_2720 e1 (by decide) z1).mp q)) ?_
      obtain ⟨z5, h⟩ := fx_gd h
      refine gb_bind (gl_ld es e1 ga_217 z5) ?_
      obtain ⟨z8, h⟩ := fx_gd h
      refine gb_bind (gl_st es (ga_sub e1 kg_340) (gr (s.1 217 (x1).toNat)) ga_217 z8) ?_
      exact ih _ _ (ga_add e1 kg_1) _ _ (rfl : _ = gx (gw1 s 217 ((x1 - 340)).toNat (s.1 217 (x1).toNat))) _ h
def gm_132 (s : gx_S) : Option (gx_S) :=
  if (-2147483648 ≤ (s.1 215 2) ∧ (s.1 215 2) ≤ 2147483647) then (
  if ¬ (s.1 215 2) = 8 then (
    gm_132_52 s) else (
    gm_132_13 100000 340 s)) else none
theorem gf_132 {s : gx_S} {σ : fx_S} (es : σ = gx s) {q : gx_S} (h : gm_132 s = some q) : fm_132 σ = some (gx q) := by
  unfold gm_132 at h
  unfold fm_132
  obtain ⟨z19, h⟩ := fx_gd h
  by_cases c20 : ¬ (s.1 215 2) = 8
  · rw [if_pos c20] at h
    refine gb_t ((gc_ne (gf1 es 215 2) kg_8 z19 (by decide)).mpr c20) ?_
    exact gf_132_52 _ _ es _ h
  · rw [if_neg c20] at h
    refine gb_f (fun q => c20 ((gc_ne (gf1 es 215 2) kg_8 z19 (by decide)).mp q)) ?_
    exact gf_132_13 100000 _ _ kg_340 _ _ es _ h

/-! ZoneSharesModel.undo()I -/
def gm_133_21 : Nat → Int → gx_S → Option (Int × gx_S)
  | 0, _, _ => none
  | n + 1, x1, s =>
    if (-2147483648 ≤ x1 ∧ x1 ≤ 2147483647) then (
    if 340 ≤ x1 then (
      some ((s.1 215 2), s)) else (
      if 0 ≤ ((340 * (s.1 215 2)) + x1) ∧ ((340 * (s.1 215 2)) + x1) < 2720 then (
      if 0 ≤ x1 ∧ x1 < 340 then (
      gm_133_21 n (x1 + 1) (gw1 s 216 (x1).toNat (s.1 217 (((340 * (s.1 215 2)) + x1)).toNat))) else none) else none)) else none
theorem gf_133_21 : ∀ (n : Nat) (x1 : Int) (yx1 : Int32) (e1 : yx1 = Int32.ofInt x1) (s : gx_S) (σ : fx_S) (es : σ = gx s) (q : Int × gx_S), gm_133_21 n x1 s = some q → fm_133_21 n yx1 σ = some (Int32.ofInt q.1, gx q.2) := by
  intro n
  induction n with
  | zero =>
    intro x1 yx1 e1 s σ es q  h
    rw [gm_133_21] at h
    exact fx_no h
  | succ n ih =>
    intro x1 yx1 e1 s σ es q  h
    rw [gm_133_21] at h
    rw [fm_133_21]
    obtain ⟨z1, h⟩ := fx_gd h
    by_cases c2 : 340 ≤ x1
    · rw [if_pos c2] at h
      refine gb_t ((gc_le kg_340 e1 (by decide) z1).mpr c2) ?_
      have h := Option.some.inj h
      subst h
      exact gret (gf1 es 215 2) es
    · rw [if_neg c2] at h
      refine gb_f (fun q => c2 ((gc_le kg_340 e1 (by decide) z1).mp q)) ?_
      obtain ⟨z5, h⟩ := fx_gd h
      refine gb_bind (gl_ld es (ga_add (ga_mul kg_340 (gf1 es 215 2)) e1) ga_217 z5) ?_
      obtain ⟨z8, h⟩ := fx_gd h
      refine gb_bind (gl_st es e1 (gr (s.1 217 (((340 * (s.1 215 2)) + x1)).toNat)) ga_216 z8) ?_
      exact ih _ _ (ga_add e1 kg_1) _ _ (rfl : _ = gx (gw1 s 216 (x1).toNat (s.1 217 (((340 * (s.1 215 2)) + x1)).toNat))) _ h
def gm_133 (s : gx_S) : Option (Int × gx_S) :=
  if (-2147483648 ≤ (s.1 215 2) ∧ (s.1 215 2) ≤ 2147483647) then (
  if ¬ (s.1 215 2) = 0 then (
    gm_133_21 100000 0 (gw1 s 215 2 ((s.1 215 2) - 1))) else (
    some ((-1), s))) else none
theorem gf_133 {s : gx_S} {σ : fx_S} (es : σ = gx s) {q : Int × gx_S} (h : gm_133 s = some q) : fm_133 σ = some (Int32.ofInt q.1, gx q.2) := by
  unfold gm_133 at h
  unfold fm_133
  obtain ⟨z11, h⟩ := fx_gd h
  by_cases c12 : ¬ (s.1 215 2) = 0
  · rw [if_pos c12] at h
    refine gb_t ((gc_ne (gf1 es 215 2) kg_0 z11 (by decide)).mpr c12) ?_
    exact gf_133_21 100000 _ _ kg_0 _ _ (gx_w1 es (ga_sub (gf1 es 215 2) kg_1)) _ h
  · rw [if_neg c12] at h
    refine gb_f (fun q => c12 ((gc_ne (gf1 es 215 2) kg_0 z11 (by decide)).mp q)) ?_
    have h := Option.some.inj h
    subst h
    exact gret kg_m1 es

/-! ZoneSharesModel.puts(I)V -/
def gm_135_3 : Nat → Int → Int → gx_S → Option (gx_S)
  | 0, _, _, _ => none
  | n + 1, x1, x2, s =>
    if (-2147483648 ≤ x2 ∧ x2 ≤ 2147483647) then (
    if x2 < 0 then (
      some s) else (
      if 0 ≤ (s.1 215 4) ∧ (s.1 215 4) < 200 then (
      gm_135_3 n x1 (x2 + (-8)) (gw1 (gw1 s 218 ((s.1 215 4)).toNat (gn3 (((Int32.ofInt (((Int32.ofInt x1 >>> (Int32.ofInt x2 &&& 31))).toInt)).toInt8.toInt32).toInt))) 215 4 (((gw1 s 218 ((s.1 215 4)).toNat (gn3 (((Int32.ofInt (((Int32.ofInt x1 >>> (Int32.ofInt x2 &&& 31))).toInt)).toInt8.toInt32).toInt))).1 215 4) + 1))) else none)) else none
theorem gf_135_3 : ∀ (n : Nat) (x1 : Int) (yx1 : Int32) (e1 : yx1 = Int32.ofInt x1) (x2 : Int) (yx2 : Int32) (e2 : yx2 = Int32.ofInt x2) (s : gx_S) (σ : fx_S) (es : σ = gx s) (q : gx_S), gm_135_3 n x1 x2 s = some q → fm_135_3 n yx1 yx2 σ = some (gx q) := by
  intro n
  induction n with
  | zero =>
    intro x1 yx1 e1 x2 yx2 e2 s σ es q  h
    rw [gm_135_3] at h
    exact fx_no h
  | succ n ih =>
    intro x1 yx1 e1 x2 yx2 e2 s σ es q  h
    rw [gm_135_3] at h
    rw [fm_135_3]
    obtain ⟨z1, h⟩ := fx_gd h
    by_cases c2 : x2 < 0
    · rw [if_pos c2] at h
      refine gb_t ((gc_lt e2 kg_0 z1 (by decide)).mpr c2) ?_
      have h := Option.some.inj h
      subst h
      exact gretv es
    · rw [if_neg c2] at h
      refine gb_f (fun q => c2 ((gc_lt e2 kg_0 z1 (by decide)).mp q)) ?_
      obtain ⟨z5, h⟩ := fx_gd h
      refine gb_bind (gl_stb3 es (gf1 es 215 4) (ga_o1 (f := fun a => a.toInt8.toInt32) (ga_o2 (f := (fun a b => (a >>> (b &&& 31)))) e1 e2)) ga_218 z5) ?_
      exact ih _ _ e1 _ _ (ga_add e2 kg_m8) _ _ (gx_w1 (rfl : _ = gx (gw1 s 218 ((s.1 215 4)).toNat (gn3 (((Int32.ofInt (((Int32.ofInt x1 >>> (Int32.ofInt x2 &&& 31))).toInt)).toInt8.toInt32).toInt)))) (ga_add (gf1 (rfl : _ = gx (gw1 s 218 ((s.1 215 4)).toNat (gn3 (((Int32.ofInt (((Int32.ofInt x1 >>> (Int32.ofInt x2 &&& 31))).toInt)).toInt8.toInt32).toInt)))) 215 4) kg_1)) _ h
def gm_135 (x1 : Int) (s : gx_S) : Option (gx_S) :=
  gm_135_3 100000 x1 24 s
theorem gf_135 {x1 : Int} {yx1 : Int32} (e1 : yx1 = Int32.ofInt x1) {s : gx_S} {σ : fx_S} (es : σ = gx s) {q : gx_S} (h : gm_135 x1 s = some q) : fm_135 yx1 σ = some (gx q) := by
  unfold gm_135 at h
  unfold fm_135
  exact gf_135_3 100000 _ _ e1 _ _ kg_24 _ _ es _ h

/-! ZoneSharesModel.end(I)I -/
def gm_136 (x1 : Int) (s : gx_S) : Option (Int × gx_S) :=
  if (-2147483648 ≤ x1 ∧ x1 ≤ 2147483647) then (
  if x1 < 0 then (
    some ((-1), s)) else (
    if (-2147483648 ≤ (s.1 215 4) ∧ (s.1 215 4) ≤ 2147483647) then (
    if x1 ≤ (s.1 215 4) then (
      some (x1, (gw1 s 215 4 x1))) else (
      some ((-1), s))) else none)) else none
theorem gf_136 {x1 : Int} {yx1 : Int32} (e1 : yx1 = Int32.ofInt x1) {s : gx_S} {σ : fx_S} (es : σ = gx s) {q : Int × gx_S} (h : gm_136 x1 s = some q) : fm_136 yx1 σ = some (Int32.ofInt q.1, gx q.2) := by
  unfold gm_136 at h
  unfold fm_136
  obtain ⟨z5, h⟩ := fx_gd h
  by_cases c6 : x1 < 0
  · rw [if_pos c6] at h
    refine gb_t ((gc_lt e1 kg_0 z5 (by decide)).mpr c6) ?_
    have h := Option.some.inj h
    subst h
    exact gret kg_m1 es
  · rw [if_neg c6] at h
    refine gb_f (fun q => c6 ((gc_lt e1 kg_0 z5 (by decide)).mp q)) ?_
    obtain ⟨z7, h⟩ := fx_gd h
    by_cases c8 : x1 ≤ (s.1 215 4)
    · rw [if_pos c8] at h
      refine gb_t ((gc_le e1 (gf1 es 215 4) z5 z7).mpr c8) ?_
      have h := Option.some.inj h
      subst h
      exact gret e1 (gx_w1 es e1)
    · rw [if_neg c8] at h
      refine gb_f (fun q => c8 ((gc_le e1 (gf1 es 215 4) z5 z7).mp q)) ?_
      have h := Option.some.inj h
      subst h
      exact gret kg_m1 es

/-! ZoneSharesModel.sign()I -/
def gm_137 (s : gx_S) : Option (Int × gx_S) :=
  if (-2147483648 ≤ (s.1 215 5) ∧ (s.1 215 5) ≤ 2147483647) then (
  if (-2147483648 ≤ (s.1 215 4) ∧ (s.1 215 4) ≤ 2147483647) then (
  if (s.1 215 4) ≤ (s.1 215 5) then (
    some ((-1), s)) else (
    if 0 ≤ (s.1 215 5) ∧ (s.1 215 5) < 200 then (
    some (((Int32.ofInt (s.1 218 ((s.1 215 5)).toNat) &&& Int32.ofInt 255)).toInt, s)) else none)) else none) else none
theorem gf_137 {s : gx_S} {σ : fx_S} (es : σ = gx s) {q : Int × gx_S} (h : gm_137 s = some q) : fm_137 σ = some (Int32.ofInt q.1, gx q.2) := by
  unfold gm_137 at h
  unfold fm_137
  obtain ⟨z7, h⟩ := fx_gd h
  obtain ⟨z8, h⟩ := fx_gd h
  by_cases c9 : (s.1 215 4) ≤ (s.1 215 5)
  · rw [if_pos c9] at h
    refine gb_t ((gc_le (gf1 es 215 4) (gf1 es 215 5) z8 z7).mpr c9) ?_
    have h := Option.some.inj h
    subst h
    exact gret kg_m1 es
  · rw [if_neg c9] at h
    refine gb_f (fun q => c9 ((gc_le (gf1 es 215 4) (gf1 es 215 5) z8 z7).mp q)) ?_
    obtain ⟨z12, h⟩ := fx_gd h
    refine gb_bind (gl_ldb3 es (gf1 es 215 5) ga_218 z12) ?_
    have h := Option.some.inj h
    subst h
    exact gret (ga_o2 (f := (fun a b => (a &&& b))) (gr (s.1 218 ((s.1 215 5)).toNat)) kg_255) es

/-! ZoneSharesModel.isRight()Z -/
def gm_138 (s : gx_S) : Option (Bool × gx_S) :=
  if (-2147483648 ≤ (s.1 215 6) ∧ (s.1 215 6) ≤ 2147483647) then (
  if ¬ (s.1 215 6) = (-1) then (
    some (false, s)) else (
    some (true, s))) else none
theorem gf_138 {s : gx_S} {σ : fx_S} (es : σ = gx s) {q : Bool × gx_S} (h : gm_138 s = some q) : fm_138 σ = some (q.1, gx q.2) := by
  unfold gm_138 at h
  unfold fm_138
  obtain ⟨z3, h⟩ := fx_gd h
  by_cases c4 : ¬ (s.1 215 6) = (-1)
  · rw [if_pos c4] at h
    refine gb_t ((gc_ne (gf1 es 215 6) kg_m1 z3 (by decide)).mpr c4) ?_
    have h := Option.some.inj h
    subst h
    exact gretb es
  · rw [if_neg c4] at h
    refine gb_f (fun q => c4 ((gc_ne (gf1 es 215 6) kg_m1 z3 (by decide)).mp q)) ?_
    have h := Option.some.inj h
    subst h
    exact gretb es

/-! ZoneSharesModel.fails(II)V -/
def gm_139 (x1 : Int) (x2 : Int) (s : gx_S) : Option (gx_S) :=
  (gm_138 s).bind fun q5 =>
  if (gb q5.1) = 0 then (
    some q5.2) else (
    some (gw1 q5.2 215 6 ((8 * x2) + x1)))
theorem gf_139 {x1 : Int} {yx1 : Int32} (e1 : yx1 = Int32.ofInt x1) {x2 : Int} {yx2 : Int32} (e2 : yx2 = Int32.ofInt x2) {s : gx_S} {σ : fx_S} (es : σ = gx s) {q : gx_S} (h : gm_139 x1 x2 s = some q) : fm_139 yx1 yx2 σ = some (gx q) := by
  unfold gm_139 at h
  unfold fm_139
  obtain ⟨q5, w4, h⟩ := fx_bd h
  refine gb_bind (gf_138 es w4) ?_
  by_cases c6 : (gb q5.1) = 0
  · rw [if_pos c6] at h
    refine gb_t ((gc_eq (gb_b q5.1) kg_0 (gb_r _) (by decide)).mpr c6) ?_
    have h := Option.some.inj h
    subst h
    exact gretv (rfl : _ = gx q5.2)
  · rw [if_neg c6] at h
    refine gb_f (fun q => c6 ((gc_eq (gb_b q5.1) kg_0 (gb_r _) (by decide)).mp q)) ?_
    have h := Option.some.inj h
    subst h
    exact gretv (gx_w1 (rfl : _ = gx q5.2) (ga_add (ga_mul kg_8 e2) e1))

/-! ZoneSharesModel.isSign(II)Z -/
def gm_140 (x0 : Int) (x1 : Int) (s : gx_S) : Option (Bool × gx_S) :=
  if (-2147483648 ≤ x0 ∧ x0 ≤ 2147483647) then (
  if ¬ x0 = 2 then (
    if (-2147483648 ≤ x1 ∧ x1 ≤ 2147483647) then (
    (gm_130 x1 97 104 s).bind fun q15 =>
    if ¬ (gb q15.1) = 0 then (
      some (true, q15.2)) else (
      if ¬ x1 = 46 then (
        some (false, q15.2)) else (
        some (true, q15.2)))) else none) else (
    if (-2147483648 ≤ x1 ∧ x1 ≤ 2147483647) then (
    (gm_130 x1 48 51 s).bind fun q20 =>
    some (q20.1, q20.2)) else none)) else none
theorem gf_140 {x0 : Int} {yx0 : Int32} (e0 : yx0 = Int32.ofInt x0) {x1 : Int} {yx1 : Int32} (e1 : yx1 = Int32.ofInt x1) {s : gx_S} {σ : fx_S} (es : σ = gx s) {q : Bool × gx_S} (h : gm_140 x0 x1 s = some q) : fm_140 yx0 yx1 σ = some (q.1, gx q.2) := by
  unfold gm_140 at h
  unfold fm_140
  obtain ⟨z11, h⟩ := fx_gd h
  by_cases c12 : ¬ x0 = 2
  · rw [if_pos c12] at h
    refine gb_t ((gc_ne e0 kg_2 z11 (by decide)).mpr c12) ?_
    obtain ⟨z13, h⟩ := fx_gd h
    obtain ⟨q15, w14, h⟩ := fx_bd h
    refine gb_bind (gf_130 (ga_i2l e1 z13) kgl_97 kgl_104 es w14) ?_
    by_cases c16 : ¬ (gb q15.1) = 0
    · rw [if_pos c16] at h
      refine gb_t ((gc_ne (gb_b q15.1) kg_0 (gb_r _) (by decide)).mpr c16) ?_
      have h := Option.some.inj h
      subst h
      exact gretb (rfl : _ = gx q15.2)
    · rw [if_neg c16] at h
      refine gb_f (fun q => c16 ((gc_ne (gb_b q15.1) kg_0 (gb_r _) (by decide)).mp q)) ?_
      by_cases c17 : ¬ x1 = 46
      · rw [if_pos c17] at h
        refine gb_t ((gc_ne e1 kg_46 z13 (by decide)).mpr c17) ?_
        have h := Option.some.inj h
        subst h
        exact gretb (rfl : _ = gx q15.2)
      · rw [if_neg c17] at h
        refine gb_f (fun q => c17 ((gc_ne e1 kg_46 z13 (by decide)).mp q)) ?_
        have h := Option.some.inj h
        subst h
        exact gretb (rfl : _ = gx q15.2)
  · rw [if_neg c12] at h
    refine gb_f (fun q => c12 ((gc_ne e0 kg_2 z11 (by decide)).mp q)) ?_
    obtain ⟨z18, h⟩ := fx_gd h
    obtain ⟨q20, w19, h⟩ := fx_bd h
    refine gb_bind (gf_130 (ga_i2l e1 z18) kgl_48 kgl_51 es w19) ?_
    have h := Option.some.inj h
    subst h
    exact gretb (rfl : _ = gx q20.2)

/-! ZoneSharesModel.codeOf(II)I -/
def gm_141 (x0 : Int) (x1 : Int) (s : gx_S) : Option (Int × gx_S) :=
  if (-2147483648 ≤ x0 ∧ x0 ≤ 2147483647) then (
  if ¬ x0 = 2 then (
    if (-2147483648 ≤ x1 ∧ x1 ≤ 2147483647) then (
    if ¬ x1 = 46 then (
      some ((x1 - 97), s)) else (
      some (8, s))) else none) else (
    some ((x1 - 48), s))) else none
theorem gf_141 {x0 : Int} {yx0 : Int32} (e0 : yx0 = Int32.ofInt x0) {x1 : Int} {yx1 : Int32} (e1 : yx1 = Int32.ofInt x1) {s : gx_S} {σ : fx_S} (es : σ = gx s) {q : Int × gx_S} (h : gm_141 x0 x1 s = some q) : fm_141 yx0 yx1 σ = some (Int32.ofInt q.1, gx q.2) := by
  unfold gm_141 at h
  unfold fm_141
  obtain ⟨z5, h⟩ := fx_gd h
  by_cases c6 : ¬ x0 = 2
  · rw [if_pos c6] at h
    refine gb_t ((gc_ne e0 kg_2 z5 (by decide)).mpr c6) ?_
    obtain ⟨z7, h⟩ := fx_gd h
    by_cases c8 : ¬ x1 = 46
    · rw [if_pos c8] at h
      refine gb_t ((gc_ne e1 kg_46 z7 (by decide)).mpr c8) ?_
      have h := Option.some.inj h
      subst h
      exact gret (ga_sub e1 kg_97) es
    · rw [if_neg c8] at h
      refine gb_f (fun q => c8 ((gc_ne e1 kg_46 z7 (by decide)).mp q)) ?_
      have h := Option.some.inj h
      subst h
      exact gret kg_8 es
  · rw [if_neg c6] at h
    refine gb_f (fun q => c6 ((gc_ne e0 kg_2 z5 (by decide)).mp q)) ?_
    have h := Option.some.inj h
    subst h
    exact gret (ga_sub e1 kg_48) es

/-! ZoneSharesModel.readsRow(II)V -/
def gm_142_168 (x4 : Int) (s : gx_S) : Option (gx_S) :=
  some (gw1 (gw1 s 215 9 x4) 215 8 (((gw1 s 215 9 x4).1 215 8) + 1))
theorem gf_142_168 (x4 : Int) (yx4 : Int32) (e4 : yx4 = Int32.ofInt x4) (s : gx_S) (σ : fx_S) (es : σ = gx s) (q : gx_S) (h : gm_142_168 x4 s = some q) : fm_142_168 yx4 σ = some (gx q) := by
  unfold gm_142_168 at h
  unfold fm_142_168
  have h := Option.some.inj h
  subst h
  exact gretv (gx_w1 (gx_w1 es e4) (ga_add (gf1 (gx_w1 es e4) 215 8) kg_1))
def gm_142_138 (x4 : Int) (s1 : Int) (s : gx_S) : Option (gx_S) :=
  (gm_139 s1 (s.1 215 5) s).bind fun q2 =>
  gm_142_168 x4 q2
theorem gf_142_138 (x4 : Int) (yx4 : Int32) (e4 : yx4 = Int32.ofInt x4) (s1 : Int) (ys1 : Int32) (es1 : ys1 = Int32.ofInt s1) (s : gx_S) (σ : fx_S) (es : σ = gx s) (q : gx_S) (h : gm_142_138 x4 s1 s = some q) : fm_142_138 yx4 ys1 σ = some (gx q) := by
  unfold gm_142_138 at h
  unfold fm_142_138
  obtain ⟨q2, w1, h⟩ := fx_bd h
  refine gb_bind (gf_139 es1 (gf1 es 215 5) es w1) ?_
  exact gf_142_168 _ _ e4 _ _ (rfl : _ = gx q2) _ h
def gm_142_114 (x1 : Int) (x2 : Int) (x4 : Int) (s0 : Int) (s : gx_S) : Option (gx_S) :=
  if (-2147483648 ≤ s0 ∧ s0 ≤ 2147483647) then (
  if ¬ s0 = 0 then (
    if (-2147483648 ≤ x2 ∧ x2 ≤ 2147483647) then (
    if x2 = (-1) then (
      gm_142_168 x4 s) else (
      if (-2147483648 ≤ x4 ∧ x4 ≤ 2147483647) then (
      if x2 ≤ x4 then (
        gm_142_168 x4 s) else (
        (gm_139 2 (s.1 215 5) s).bind fun q8 =>
        gm_142_168 x4 q8)) else none)) else none) else (
    (gm_137 s).bind fun q10 =>
    (gm_140 x1 q10.1 q10.2).bind fun q12 =>
    if (gb q12.1) = 0 then (
      gm_142_138 x4 1 q12.2) else (
      gm_142_138 x4 3 q12.2))) else none
theorem gf_142_114 (x1 : Int) (yx1 : Int32) (e1 : yx1 = Int32.ofInt x1) (x2 : Int) (yx2 : Int32) (e2 : yx2 = Int32.ofInt x2) (x4 : Int) (yx4 : Int32) (e4 : yx4 = Int32.ofInt x4) (s0 : Int) (ys0 : Int32) (es0 : ys0 = Int32.ofInt s0) (s : gx_S) (σ : fx_S) (es : σ = gx s) (q : gx_S) (h : gm_142_114 x1 x2 x4 s0 s = some q) : fm_142_114 yx1 yx2 yx4 ys0 σ = some (gx q) := by
  unfold gm_142_114 at h
  unfold fm_142_114
  obtain ⟨z1, h⟩ := fx_gd h
  by_cases c2 : ¬ s0 = 0
  · rw [if_pos c2] at h
    refine gb_t ((gc_ne es0 kg_0 z1 (by decide)).mpr c2) ?_
    obtain ⟨z3, h⟩ := fx_gd h
    by_cases c4 : x2 = (-1)
    · rw [if_pos c4] at h
      refine gb_t ((gc_eq e2 kg_m1 z3 (by decide)).mpr c4) ?_
      exact gf_142_168 _ _ e4 _ _ es _ h
    · rw [if_neg c4] at h
      refine gb_f (fun q => c4 ((gc_eq e2 kg_m1 z3 (by decide)).mp q)) ?_
      obtain ⟨z5, h⟩ := fx_gd h
      by_cases c6 : x2 ≤ x4
      · rw [if_pos c6] at h
        refine gb_t ((gc_le e2 e4 z3 z5).mpr c6) ?_
        exact gf_142_168 _ _ e4 _ _ es _ h
      · rw [if_neg c6] at h
        refine gb_f (fun q => c6 ((gc_le e2 e4 z3 z5).mp q)) ?_
        obtain ⟨q8, w7, h⟩ := fx_bd h
        refine gb_bind (gf_139 kg_2 (gf1 es 215 5) es w7) ?_
        exact gf_142_168 _ _ e4 _ _ (rfl : _ = gx q8) _ h
  · rw [if_neg c2] at h
    refine gb_f (fun q => c2 ((gc_ne es0 kg_0 z1 (by decide)).mp q)) ?_
    obtain ⟨q10, w9, h⟩ := fx_bd h
    refine gb_bind (gf_137 es w9) ?_
    obtain ⟨q12, w11, h⟩ := fx_bd h
    refine gb_bind (gf_140 e1 (gr q10.1) (rfl : _ = gx q10.2) w11) ?_
    by_cases c13 : (gb q12.1) = 0
    · rw [if_pos c13] at h
      refine gb_t ((gc_eq (gb_b q12.1) kg_0 (gb_r _) (by decide)).mpr c13) ?_
      exact gf_142_138 _ _ e4 _ _ kg_1 _ _ (rfl : _ = gx q12.2) _ h
    · rw [if_neg c13] at h
      refine gb_f (fun q => c13 ((gc_eq (gb_b q12.1) kg_0 (gb_r _) (by decide)).mp q)) ?_
      exact gf_142_138 _ _ e4 _ _ kg_3 _ _ (rfl : _ = gx q12.2) _ h
def gm_142_92 (x1 : Int) (x2 : Int) (x4 : Int) (s : gx_S) : Option (gx_S) :=
  (gm_137 s).bind fun q2 =>
  if (-2147483648 ≤ q2.1 ∧ q2.1 ≤ 2147483647) then (
  if q2.1 = 47 then (
    gm_142_114 x1 x2 x4 1 q2.2) else (
    (gm_137 q2.2).bind fun q6 =>
    if (-2147483648 ≤ q6.1 ∧ q6.1 ≤ 2147483647) then (
    if ¬ q6.1 = (-1) then (
      gm_142_114 x1 x2 x4 0 q6.2) else (
      gm_142_114 x1 x2 x4 1 q6.2)) else none)) else none
theorem gf_142_92 (x1 : Int) (yx1 : Int32) (e1 : yx1 = Int32.ofInt x1) (x2 : Int) (yx2 : Int32) (e2 : yx2 = Int32.ofInt x2) (x4 : Int) (yx4 : Int32) (e4 : yx4 = Int32.ofInt x4) (s : gx_S) (σ : fx_S) (es : σ = gx s) (q : gx_S) (h : gm_142_92 x1 x2 x4 s = some q) : fm_142_92 yx1 yx2 yx4 σ = some (gx q) := by
  unfold gm_142_92 at h
  unfold fm_142_92
  obtain ⟨q2, w1, h⟩ := fx_bd h
  refine gb_bind (gf_137 es w1) ?_
  obtain ⟨z3, h⟩ := fx_gd h
  by_cases c4 : q2.1 = 47
  · rw [if_pos c4] at h
    refine gb_t ((gc_eq (gr q2.1) kg_47 z3 (by decide)).mpr c4) ?_
    exact gf_142_114 _ _ e1 _ _ e2 _ _ e4 _ _ kg_1 _ _ (rfl : _ = gx q2.2) _ h
  · rw [if_neg c4] at h
    refine gb_f (fun q => c4 ((gc_eq (gr q2.1) kg_47 z3 (by decide)).mp q)) ?_
    obtain ⟨q6, w5, h⟩ := fx_bd h
    refine gb_bind (gf_137 (rfl : _ = gx q2.2) w5) ?_
    obtain ⟨z7, h⟩ := fx_gd h
    by_cases c8 : ¬ q6.1 = (-1)
    · rw [if_pos c8] at h
      refine gb_t ((gc_ne (gr q6.1) kg_m1 z7 (by decide)).mpr c8) ?_
      exact gf_142_114 _ _ e1 _ _ e2 _ _ e4 _ _ kg_0 _ _ (rfl : _ = gx q6.2) _ h
    · rw [if_neg c8] at h
      refine gb_f (fun q => c8 ((gc_ne (gr q6.1) kg_m1 z7 (by decide)).mp q)) ?_
      exact gf_142_114 _ _ e1 _ _ e2 _ _ e4 _ _ kg_1 _ _ (rfl : _ = gx q6.2) _ h
def gm_142_36 : Nat → Int → Int → Int → Int → gx_S → Option (gx_S)
  | 0, _, _, _, _, _ => none
  | n + 1, x1, x2, x3, x4, s =>
    if (-2147483648 ≤ x4 ∧ x4 ≤ 2147483647) then (
    if (-2147483648 ≤ x3 ∧ x3 ≤ 2147483647) then (
    if x3 ≤ x4 then (
      gm_142_92 x1 x2 x4 s) else (
      (gm_137 s).bind fun q5 =>
      (gm_140 x1 q5.1 q5.2).bind fun q7 =>
      if (gb q7.1) = 0 then (
        gm_142_92 x1 x2 x4 q7.2) else (
        (gm_137 q7.2).bind fun q10 =>
        (gm_141 x1 q10.1 q10.2).bind fun q12 =>
        if 0 ≤ ((12 * (q7.2.1 215 8)) + x4) ∧ ((12 * (q7.2.1 215 8)) + x4) < 96 then (
        gm_142_36 n x1 x2 x3 (x4 + 1) (gw1 (gw1 q12.2 219 (((12 * (q7.2.1 215 8)) + x4)).toNat q12.1) 215 5 (((gw1 q12.2 219 (((12 * (q7.2.1 215 8)) + x4)).toNat q12.1).1 215 5) + 1))) else none))) else none) else none
theorem gf_142_36 : ∀ (n : Nat) (x1 : Int) (yx1 : Int32) (e1 : yx1 = Int32.ofInt x1) (x2 : Int) (yx2 : Int32) (e2 : yx2 = Int32.ofInt x2) (x3 : Int) (yx3 : Int32) (e3 : yx3 = Int32.ofInt x3) (x4 : Int) (yx4 : Int32) (e4 : yx4 = Int32.ofInt x4) (s : gx_S) (σ : fx_S) (es : σ = gx s) (q : gx_S), gm_142_36 n x1 x2 x3 x4 s = some q → fm_142_36 n yx1 yx2 yx3 yx4 σ = some (gx q) := by
  intro n
  induction n with
  | zero =>
    intro x1 yx1 e1 x2 yx2 e2 x3 yx3 e3 x4 yx4 e4 s σ es q  h
    rw [gm_142_36] at h
    exact fx_no h
  | succ n ih =>
    intro x1 yx1 e1 x2 yx2 e2 x3 yx3 e3 x4 yx4 e4 s σ es q  h
    rw [gm_142_36] at h
    rw [fm_142_36]
    obtain ⟨z1, h⟩ := fx_gd h
    obtain ⟨z2, h⟩ := fx_gd h
    by_cases c3 : x3 ≤ x4
    · rw [if_pos c3] at h
      refine gb_t ((gc_le e3 e4 z2 z1).mpr c3) ?_
      exact gf_142_92 _ _ e1 _ _ e2 _ _ e4 _ _ es _ h
    · rw [if_neg c3] at h
      refine gb_f (fun q => c3 ((gc_le e3 e4 z2 z1).mp q)) ?_
      obtain ⟨q5, w4, h⟩ := fx_bd h
      refine gb_bind (gf_137 es w4) ?_
      obtain ⟨q7, w6, h⟩ := fx_bd h
      refine gb_bind (gf_140 e1 (gr q5.1) (rfl : _ = gx q5.2) w6) ?_
      by_cases c8 : (gb q7.1) = 0
      · rw [if_pos c8] at h
        refine gb_t ((gc_eq (gb_b q7.1) kg_0 (gb_r _) (by decide)).mpr c8) ?_
        exact gf_142_92 _ _ e1 _ _ e2 _ _ e4 _ _ (rfl : _ = gx q7.2) _ h
      · rw [if_neg c8] at h
        refine gb_f (fun q => c8 ((gc_eq (gb_b q7.1) kg_0 (gb_r _) (by decide)).mp q)) ?_
        obtain ⟨q10, w9, h⟩ := fx_bd h
        refine gb_bind (gf_137 (rfl : _ = gx q7.2) w9) ?_
        obtain ⟨q12, w11, h⟩ := fx_bd h
        refine gb_bind (gf_141 e1 (gr q10.1) (rfl : _ = gx q10.2) w11) ?_
        obtain ⟨z15, h⟩ := fx_gd h
        refine gb_bind (gl_st (rfl : _ = gx q12.2) (ga_add (ga_mul kg_12 (gf1 (rfl : _ = gx q7.2) 215 8)) e4) (gr q12.1) ga_219 z15) ?_
        exact ih _ _ e1 _ _ e2 _ _ e3 _ _ (ga_add e4 kg_1) _ _ (gx_w1 (rfl : _ = gx (gw1 q12.2 219 (((12 * (q7.2.1 215 8)) + x4)).toNat q12.1)) (ga_add (gf1 (rfl : _ = gx (gw1 q12.2 219 (((12 * (q7.2.1 215 8)) + x4)).toNat q12.1)) 215 5) kg_1)) _ h
def gm_142_32 (x1 : Int) (x2 : Int) (s0 : Int) (s : gx_S) : Option (gx_S) :=
  gm_142_36 100000 x1 x2 s0 0 s
theorem gf_142_32 (x1 : Int) (yx1 : Int32) (e1 : yx1 = Int32.ofInt x1) (x2 : Int) (yx2 : Int32) (e2 : yx2 = Int32.ofInt x2) (s0 : Int) (ys0 : Int32) (es0 : ys0 = Int32.ofInt s0) (s : gx_S) (σ : fx_S) (es : σ = gx s) (q : gx_S) (h : gm_142_32 x1 x2 s0 s = some q) : fm_142_32 yx1 yx2 ys0 σ = some (gx q) := by
  unfold gm_142_32 at h
  unfold fm_142_32
  exact gf_142_36 100000 _ _ e1 _ _ e2 _ _ es0 _ _ kg_0 _ _ es _ h
def gm_142 (x1 : Int) (x2 : Int) (s : gx_S) : Option (gx_S) :=
  (gm_137 s).bind fun q49 =>
  (gm_140 x1 q49.1 q49.2).bind fun q51 =>
  if ¬ (gb q51.1) = 0 then (
    if (-2147483648 ≤ x2 ∧ x2 ≤ 2147483647) then (
    if ¬ x2 = (-1) then (
      gm_142_32 x1 x2 x2 q51.2) else (
      gm_142_32 x1 x2 12 q51.2)) else none) else (
    (gm_139 1 (q51.2.1 215 5) q51.2).bind fun q56 =>
    some q56)
theorem gf_142 {x1 : Int} {yx1 : Int32} (e1 : yx1 = Int32.ofInt x1) {x2 : Int} {yx2 : Int32} (e2 : yx2 = Int32.ofInt x2) {s : gx_S} {σ : fx_S} (es : σ = gx s) {q : gx_S} (h : gm_142 x1 x2 s = some q) : fm_142 yx1 yx2 σ = some (gx q) := by
  unfold gm_142 at h
  unfold fm_142
  obtain ⟨q49, w48, h⟩ := fx_bd h
  refine gb_bind (gf_137 es w48) ?_
  obtain ⟨q51, w50, h⟩ := fx_bd h
  refine gb_bind (gf_140 e1 (gr q49.1) (rfl : _ = gx q49.2) w50) ?_
  by_cases c52 : ¬ (gb q51.1) = 0
  · rw [if_pos c52] at h
    refine gb_t ((gc_ne (gb_b q51.1) kg_0 (gb_r _) (by decide)).mpr c52) ?_
    obtain ⟨z53, h⟩ := fx_gd h
    by_cases c54 : ¬ x2 = (-1)
    · rw [if_pos c54] at h
      refine gb_t ((gc_ne e2 kg_m1 z53 (by decide)).mpr c54) ?_
      exact gf_142_32 _ _ e1 _ _ e2 _ _ e2 _ _ (rfl : _ = gx q51.2) _ h
    · rw [if_neg c54] at h
      refine gb_f (fun q => c54 ((gc_ne e2 kg_m1 z53 (by decide)).mp q)) ?_
      exact gf_142_32 _ _ e1 _ _ e2 _ _ kg_12 _ _ (rfl : _ = gx q51.2) _ h
  · rw [if_neg c52] at h
    refine gb_f (fun q => c52 ((gc_ne (gb_b q51.1) kg_0 (gb_r _) (by decide)).mp q)) ?_
    obtain ⟨q56, w55, h⟩ := fx_bd h
    refine gb_bind (gf_139 kg_1 (gf1 (rfl : _ = gx q51.2) 215 5) (rfl : _ = gx q51.2) w55) ?_
    have h := Option.some.inj h
    subst h
    exact gretv (rfl : _ = gx q56)

/-! ZoneSharesModel.readsLayer(I)V -/
def gm_143_112 (x1 : Int) (x2 : Int) (s : gx_S) : Option (gx_S) :=
  (gm_138 s).bind fun q2 =>
  if (gb q2.1) = 0 then (
    some q2.2) else (
    if (-2147483648 ≤ x1 ∧ x1 ≤ 2147483647) then (
    if x1 = 0 then (
      some q2.2) else (
      if (-2147483648 ≤ (q2.2.1 215 8) ∧ (q2.2.1 215 8) ≤ 2147483647) then (
      if (-2147483648 ≤ x2 ∧ x2 ≤ 2147483647) then (
      if x2 ≤ (q2.2.1 215 8) then (
        some q2.2) else (
        (gm_139 4 (q2.2.1 215 5) q2.2).bind fun q10 =>
        some q10)) else none) else none)) else none)
theorem gf_143_112 (x1 : Int) (yx1 : Int32) (e1 : yx1 = Int32.ofInt x1) (x2 : Int) (yx2 : Int32) (e2 : yx2 = Int32.ofInt x2) (s : gx_S) (σ : fx_S) (es : σ = gx s) (q : gx_S) (h : gm_143_112 x1 x2 s = some q) : fm_143_112 yx1 yx2 σ = some (gx q) := by
  unfold gm_143_112 at h
  unfold fm_143_112
  obtain ⟨q2, w1, h⟩ := fx_bd h
  refine gb_bind (gf_138 es w1) ?_
  by_cases c3 : (gb q2.1) = 0
  · rw [if_pos c3] at h
    refine gb_t ((gc_eq (gb_b q2.1) kg_0 (gb_r _) (by decide)).mpr c3) ?_
    have h := Option.some.inj h
    subst h
    exact gretv (rfl : _ = gx q2.2)
  · rw [if_neg c3] at h
    refine gb_f (fun q => c3 ((gc_eq (gb_b q2.1) kg_0 (gb_r _) (by decide)).mp q)) ?_
    obtain ⟨z4, h⟩ := fx_gd h
    by_cases c5 : x1 = 0
    · rw [if_pos c5] at h
      refine gb_t ((gc_eq e1 kg_0 z4 (by decide)).mpr c5) ?_
      have h := Option.some.inj h
      subst h
      exact gretv (rfl : _ = gx q2.2)
    · rw [if_neg c5] at h
      refine gb_f (fun q => c5 ((gc_eq e1 kg_0 z4 (by decide)).mp q)) ?_
      obtain ⟨z6, h⟩ := fx_gd h
      obtain ⟨z7, h⟩ := fx_gd h
      by_cases c8 : x2 ≤ (q2.2.1 215 8)
      · rw [if_pos c8] at h
        refine gb_t ((gc_le e2 (gf1 (rfl : _ = gx q2.2) 215 8) z7 z6).mpr c8) ?_
        have h := Option.some.inj h
        subst h
        exact gretv (rfl : _ = gx q2.2)
      · rw [if_neg c8] at h
        refine gb_f (fun q => c8 ((gc_le e2 (gf1 (rfl : _ = gx q2.2) 215 8) z7 z6).mp q)) ?_
        obtain ⟨q10, w9, h⟩ := fx_bd h
        refine gb_bind (gf_139 kg_4 (gf1 (rfl : _ = gx q2.2) 215 5) (rfl : _ = gx q2.2) w9) ?_
        have h := Option.some.inj h
        subst h
        exact gretv (rfl : _ = gx q10)
def gm_143_57 : Nat → Int → Int → Int → gx_S → Option (gx_S)
  | 0, _, _, _, _ => none
  | n + 1, x1, x2, x3, s =>
    (gm_138 s).bind fun q2 =>
    if (gb q2.1) = 0 then (
      gm_143_112 x1 x2 q2.2) else (
      (gm_137 q2.2).bind fun q5 =>
      if (-2147483648 ≤ q5.1 ∧ q5.1 ≤ 2147483647) then (
      if ¬ q5.1 = 47 then (
        gm_143_112 x1 x2 q5.2) else (
        if (-2147483648 ≤ (q5.2.1 215 8) ∧ (q5.2.1 215 8) ≤ 2147483647) then (
        if (-2147483648 ≤ x2 ∧ x2 ≤ 2147483647) then (
        if ¬ (q5.2.1 215 8) = x2 then (
          (gm_142 x1 x3 (gw1 q5.2 215 5 ((q5.2.1 215 5) + 1))).bind fun q12 =>
          gm_143_57 n x1 x2 x3 q12) else (
          (gm_139 3 (q5.2.1 215 5) q5.2).bind fun q14 =>
          gm_143_57 n x1 x2 x3 q14)) else none) else none)) else none)
theorem gf_143_57 : ∀ (n : Nat) (x1 : Int) (yx1 : Int32) (e1 : yx1 = Int32.ofInt x1) (x2 : Int) (yx2 : Int32) (e2 : yx2 = Int32.ofInt x2) (x3 : Int) (yx3 : Int32) (e3 : yx3 = Int32.ofInt x3) (s : gx_S) (σ : fx_S) (es : σ = gx s) (q : gx_S), gm_143_57 n x1 x2 x3 s = some q → fm_143_57 n yx1 yx2 yx3 σ = some (gx q) := by
  intro n
  induction n with
  | zero =>
    intro x1 yx1 e1 x2 yx2 e2 x3 yx3 e3 s σ es q  h
    rw [gm_143_57] at h
    exact fx_no h
  | succ n ih =>
    intro x1 yx1 e1 x2 yx2 e2 x3 yx3 e3 s σ es q  h
    rw [gm_143_57] at h
    rw [fm_143_57]
    obtain ⟨q2, w1, h⟩ := fx_bd h
    refine gb_bind (gf_138 es w1) ?_
    by_cases c3 : (gb q2.1) = 0
    · rw [if_pos c3] at h
      refine gb_t ((gc_eq (gb_b q2.1) kg_0 (gb_r _) (by decide)).mpr c3) ?_
      exact gf_143_112 _ _ e1 _ _ e2 _ _ (rfl : _ = gx q2.2) _ h
    · rw [if_neg c3] at h
      refine gb_f (fun q => c3 ((gc_eq (gb_b q2.1) kg_0 (gb_r _) (by decide)).mp q)) ?_
      obtain ⟨q5, w4, h⟩ := fx_bd h
      refine gb_bind (gf_137 (rfl : _ = gx q2.2) w4) ?_
      obtain ⟨z6, h⟩ := fx_gd h
      by_cases c7 : ¬ q5.1 = 47
      · rw [if_pos c7] at h
        refine gb_t ((gc_ne (gr q5.1) kg_47 z6 (by decide)).mpr c7) ?_
        exact gf_143_112 _ _ e1 _ _ e2 _ _ (rfl : _ = gx q5.2) _ h
      · rw [if_neg c7] at h
        refine gb_f (fun q => c7 ((gc_ne (gr q5.1) kg_47 z6 (by decide)).mp q)) ?_
        obtain ⟨z8, h⟩ := fx_gd h
        obtain ⟨z9, h⟩ := fx_gd h
        by_cases c10 : ¬ (q5.2.1 215 8) = x2
        · rw [if_pos c10] at h
          refine gb_t ((gc_ne (gf1 (rfl : _ = gx q5.2) 215 8) e2 z8 z9).mpr c10) ?_
          obtain ⟨q12, w11, h⟩ := fx_bd h
          refine gb_bind (gf_142 e1 e3 (gx_w1 (rfl : _ = gx q5.2) (ga_add (gf1 (rfl : _ = gx q5.2) 215 5) kg_1)) w11) ?_
          exact ih _ _ e1 _ _ e2 _ _ e3 _ _ (rfl : _ = gx q12) _ h
        · rw [if_neg c10] at h
          refine gb_f (fun q => c10 ((gc_ne (gf1 (rfl : _ = gx q5.2) 215 8) e2 z8 z9).mp q)) ?_
          obtain ⟨q14, w13, h⟩ := fx_bd h
          refine gb_bind (gf_139 kg_3 (gf1 (rfl : _ = gx q5.2) 215 5) (rfl : _ = gx q5.2) w13) ?_
          exact ih _ _ e1 _ _ e2 _ _ e3 _ _ (rfl : _ = gx q14) _ h
def gm_143_45 (x1 : Int) (x2 : Int) (s0 : Int) (s : gx_S) : Option (gx_S) :=
  (gm_142 x1 s0 s).bind fun q2 =>
  gm_143_57 100000 x1 x2 (q2.1 215 9) q2
theorem gf_143_45 (x1 : Int) (yx1 : Int32) (e1 : yx1 = Int32.ofInt x1) (x2 : Int) (yx2 : Int32) (e2 : yx2 = Int32.ofInt x2) (s0 : Int) (ys0 : Int32) (es0 : ys0 = Int32.ofInt s0) (s : gx_S) (σ : fx_S) (es : σ = gx s) (q : gx_S) (h : gm_143_45 x1 x2 s0 s = some q) : fm_143_45 yx1 yx2 ys0 σ = some (gx q) := by
  unfold gm_143_45 at h
  unfold fm_143_45
  obtain ⟨q2, w1, h⟩ := fx_bd h
  refine gb_bind (gf_142 e1 es0 es w1) ?_
  exact gf_143_57 100000 _ _ e1 _ _ e2 _ _ (gf1 (rfl : _ = gx q2) 215 9) _ _ (rfl : _ = gx q2) _ h
def gm_143_30 (x1 : Int) (s0 : Int) (s : gx_S) : Option (gx_S) :=
  if (-2147483648 ≤ x1 ∧ x1 ≤ 2147483647) then (
  if ¬ x1 = 0 then (
    gm_143_45 x1 s0 (s.1 216 1) s) else (
    gm_143_45 x1 s0 (-1) s)) else none
theorem gf_143_30 (x1 : Int) (yx1 : Int32) (e1 : yx1 = Int32.ofInt x1) (s0 : Int) (ys0 : Int32) (es0 : ys0 = Int32.ofInt s0) (s : gx_S) (σ : fx_S) (es : σ = gx s) (q : gx_S) (h : gm_143_30 x1 s0 s = some q) : fm_143_30 yx1 ys0 σ = some (gx q) := by
  unfold gm_143_30 at h
  unfold fm_143_30
  obtain ⟨z1, h⟩ := fx_gd h
  by_cases c2 : ¬ x1 = 0
  · rw [if_pos c2] at h
    refine gb_t ((gc_ne e1 kg_0 z1 (by decide)).mpr c2) ?_
    refine gb_bind (gl_ld es kg_1 ga_216 (by decide)) ?_
    exact gf_143_45 _ _ e1 _ _ es0 _ _ (gr (s.1 216 1)) _ _ es _ h
  · rw [if_neg c2] at h
    refine gb_f (fun q => c2 ((gc_ne e1 kg_0 z1 (by decide)).mp q)) ?_
    exact gf_143_45 _ _ e1 _ _ es0 _ _ kg_m1 _ _ es _ h
def gm_143 (x1 : Int) (s : gx_S) : Option (gx_S) :=
  if (-2147483648 ≤ x1 ∧ x1 ≤ 2147483647) then (
  if ¬ x1 = 0 then (
    gm_143_30 x1 ((gw1 (gw1 (gw1 s 215 5 0) 215 6 (-1)) 215 8 0).1 216 0) (gw1 (gw1 (gw1 s 215 5 0) 215 6 (-1)) 215 8 0)) else (
    gm_143_30 x1 8 (gw1 (gw1 (gw1 s 215 5 0) 215 6 (-1)) 215 8 0))) else none
theorem gf_143 {x1 : Int} {yx1 : Int32} (e1 : yx1 = Int32.ofInt x1) {s : gx_S} {σ : fx_S} (es : σ = gx s) {q : gx_S} (h : gm_143 x1 s = some q) : fm_143 yx1 σ = some (gx q) := by
  unfold gm_143 at h
  unfold fm_143
  obtain ⟨z35, h⟩ := fx_gd h
  by_cases c36 : ¬ x1 = 0
  · rw [if_pos c36] at h
    refine gb_t ((gc_ne e1 kg_0 z35 (by decide)).mpr c36) ?_
    refine gb_bind (gl_ld (gx_w1 (gx_w1 (gx_w1 es kg_0) kg_m1) kg_0) kg_0 ga_216 (by decide)) ?_
    exact gf_143_30 _ _ e1 _ _ (gr ((gw1 (gw1 (gw1 s 215 5 0) 215 6 (-1)) 215 8 0).1 216 0)) _ _ (gx_w1 (gx_w1 (gx_w1 es kg_0) kg_m1) kg_0) _ h
  · rw [if_neg c36] at h
    refine gb_f (fun q => c36 ((gc_ne e1 kg_0 z35 (by decide)).mp q)) ?_
    exact gf_143_30 _ _ e1 _ _ kg_8 _ _ (gx_w1 (gx_w1 (gx_w1 es kg_0) kg_m1) kg_0) _ h

/-! ZoneSharesModel.isTold(I)Z -/
def gm_144 (x1 : Int) (s : gx_S) : Option (Bool × gx_S) :=
  if (-2147483648 ≤ ((Int32.ofInt (((Int32.ofInt (s.1 216 2) >>> (Int32.ofInt x1 &&& 31))).toInt) &&& Int32.ofInt 1)).toInt ∧ ((Int32.ofInt (((Int32.ofInt (s.1 216 2) >>> (Int32.ofInt x1 &&& 31))).toInt) &&& Int32.ofInt 1)).toInt ≤ 2147483647) then (
  if ¬ ((Int32.ofInt (((Int32.ofInt (s.1 216 2) >>> (Int32.ofInt x1 &&& 31))).toInt) &&& Int32.ofInt 1)).toInt = 1 then (
    some (false, s)) else (
    some (true, s))) else none
theorem gf_144 {x1 : Int} {yx1 : Int32} (e1 : yx1 = Int32.ofInt x1) {s : gx_S} {σ : fx_S} (es : σ = gx s) {q : Bool × gx_S} (h : gm_144 x1 s = some q) : fm_144 yx1 σ = some (q.1, gx q.2) := by
  unfold gm_144 at h
  unfold fm_144
  refine gb_bind (gl_ld es kg_2 ga_216 (by decide)) ?_
  obtain ⟨z7, h⟩ := fx_gd h
  by_cases c8 : ¬ ((Int32.ofInt (((Int32.ofInt (s.1 216 2) >>> (Int32.ofInt x1 &&& 31))).toInt) &&& Int32.ofInt 1)).toInt = 1
  · rw [if_pos c8] at h
    refine gb_t ((gc_ne (ga_o2 (f := (fun a b => (a &&& b))) (ga_o2 (f := (fun a b => (a >>> (b &&& 31)))) (gr (s.1 216 2)) e1) kg_1) kg_1 z7 (by decide)).mpr c8) ?_
    have h := Option.some.inj h
    subst h
    exact gretb es
  · rw [if_neg c8] at h
    refine gb_f (fun q => c8 ((gc_ne (ga_o2 (f := (fun a b => (a &&& b))) (ga_o2 (f := (fun a b => (a >>> (b &&& 31)))) (gr (s.1 216 2)) e1) kg_1) kg_1 z7 (by decide)).mp q)) ?_
    have h := Option.some.inj h
    subst h
    exact gretb es

/-! ZoneSharesModel.layer(I)I -/
def gm_145_126 : Nat → Int → Int → gx_S → Option (Int × gx_S)
  | 0, _, _, _ => none
  | n + 1, x1, x2, s =>
    if (-2147483648 ≤ x2 ∧ x2 ≤ 2147483647) then (
    if 96 ≤ x2 then (
      some (((s.1 216 0) * (s.1 216 1)), s)) else (
      if 0 ≤ x2 ∧ x2 < 96 then (
      if 0 ≤ ((52 + (96 * x1)) + x2) ∧ ((52 + (96 * x1)) + x2) < 340 then (
      gm_145_126 n x1 (x2 + 1) (gw1 s 216 (((52 + (96 * x1)) + x2)).toNat (s.1 219 (x2).toNat))) else none) else none)) else none
theorem gf_145_126 : ∀ (n : Nat) (x1 : Int) (yx1 : Int32) (e1 : yx1 = Int32.ofInt x1) (x2 : Int) (yx2 : Int32) (e2 : yx2 = Int32.ofInt x2) (s : gx_S) (σ : fx_S) (es : σ = gx s) (q : Int × gx_S), gm_145_126 n x1 x2 s = some q → fm_145_126 n yx1 yx2 σ = some (Int32.ofInt q.1, gx q.2) := by
  intro n
  induction n with
  | zero =>
    intro x1 yx1 e1 x2 yx2 e2 s σ es q  h
    rw [gm_145_126] at h
    exact fx_no h
  | succ n ih =>
    intro x1 yx1 e1 x2 yx2 e2 s σ es q  h
    rw [gm_145_126] at h
    rw [fm_145_126]
    obtain ⟨z1, h⟩ := fx_gd h
    by_cases c2 : 96 ≤ x2
    · rw [if_pos c2] at h
      refine gb_t ((gc_le kg_96 e2 (by decide) z1).mpr c2) ?_
      refine gb_bind (gl_ld es kg_0 ga_216 (by decide)) ?_
      refine gb_bind (gl_ld es kg_1 ga_216 (by decide)) ?_
      have h := Option.some.inj h
      subst h
      exact gret (ga_mul (gr (s.1 216 0)) (gr (s.1 216 1))) es
    · rw [if_neg c2] at h
      refine gb_f (fun q => c2 ((gc_le kg_96 e2 (by decide) z1).mp q)) ?_
      obtain ⟨z9, h⟩ := fx_gd h
      refine gb_bind (gl_ld es e2 ga_219 z9) ?_
      obtain ⟨z12, h⟩ := fx_gd h
      refine gb_bind (gl_st es (ga_add (ga_add kg_52 (ga_mul kg_96 e1)) e2) (gr (s.1 219 (x2).toNat)) ga_216 z12) ?_
      exact ih _ _ e1 _ _ (ga_add e2 kg_1) _ _ (rfl : _ = gx (gw1 s 216 (((52 + (96 * x1)) + x2)).toNat (s.1 219 (x2).toNat))) _ h
def gm_145_112 (x1 : Int) (s : gx_S) : Option (Int × gx_S) :=
  gm_145_126 100000 x1 0 (gw1 s 216 2 (((Int32.ofInt (s.1 216 2) ||| Int32.ofInt (((Int32.ofInt 1 <<< (Int32.ofInt x1 &&& 31))).toInt))).toInt))
theorem gf_145_112 (x1 : Int) (yx1 : Int32) (e1 : yx1 = Int32.ofInt x1) (s : gx_S) (σ : fx_S) (es : σ = gx s) (q : Int × gx_S) (h : gm_145_112 x1 s = some q) : fm_145_112 yx1 σ = some (Int32.ofInt q.1, gx q.2) := by
  unfold gm_145_112 at h
  unfold fm_145_112
  refine gb_bind (gl_ld es kg_2 ga_216 (by decide)) ?_
  refine gb_bind (gl_st es kg_2 (ga_o2 (f := (fun a b => (a ||| b))) (gr (s.1 216 2)) (ga_o2 (f := (fun a b => (a <<< (b &&& 31)))) kg_1 e1)) ga_216 (by decide)) ?_
  exact gf_145_126 100000 _ _ e1 _ _ kg_0 _ _ (rfl : _ = gx (gw1 s 216 2 (((Int32.ofInt (s.1 216 2) ||| Int32.ofInt (((Int32.ofInt 1 <<< (Int32.ofInt x1 &&& 31))).toInt))).toInt))) _ h
def gm_145_85 (x1 : Int) (s : gx_S) : Option (Int × gx_S) :=
  gm_145_112 x1 (gw1 (gw1 (gw1 s 216 2 0) 216 0 ((gw1 s 216 2 0).1 215 8)) 216 1 ((gw1 (gw1 s 216 2 0) 216 0 ((gw1 s 216 2 0).1 215 8)).1 215 9))
theorem gf_145_85 (x1 : Int) (yx1 : Int32) (e1 : yx1 = Int32.ofInt x1) (s : gx_S) (σ : fx_S) (es : σ = gx s) (q : Int × gx_S) (h : gm_145_85 x1 s = some q) : fm_145_85 yx1 σ = some (Int32.ofInt q.1, gx q.2) := by
  unfold gm_145_85 at h
  unfold fm_145_85
  refine gb_bind (gl_st es kg_2 kg_0 ga_216 (by decide)) ?_
  refine gb_bind (gl_st (rfl : _ = gx (gw1 s 216 2 0)) kg_0 (gf1 (rfl : _ = gx (gw1 s 216 2 0)) 215 8) ga_216 (by decide)) ?_
  refine gb_bind (gl_st (rfl : _ = gx (gw1 (gw1 s 216 2 0) 216 0 ((gw1 s 216 2 0).1 215 8))) kg_1 (gf1 (rfl : _ = gx (gw1 (gw1 s 216 2 0) 216 0 ((gw1 s 216 2 0).1 215 8))) 215 9) ga_216 (by decide)) ?_
  exact gf_145_112 _ _ e1 _ _ (rfl : _ = gx (gw1 (gw1 (gw1 s 216 2 0) 216 0 ((gw1 s 216 2 0).1 215 8)) 216 1 ((gw1 (gw1 s 216 2 0) 216 0 ((gw1 s 216 2 0).1 215 8)).1 215 9))) _ h
def gm_145_26 (x1 : Int) (s : gx_S) : Option (Int × gx_S) :=
  (gm_143 x1 s).bind fun q2 =>
  (gm_138 (gw1 q2 215 4 0)).bind fun q4 =>
  if ¬ (gb q4.1) = 0 then (
    (gm_132 q4.2).bind fun q7 =>
    if (-2147483648 ≤ x1 ∧ x1 ≤ 2147483647) then (
    if ¬ x1 = 0 then (
      gm_145_112 x1 q7) else (
      if (-2147483648 ≤ (q7.1 215 8) ∧ (q7.1 215 8) ≤ 2147483647) then (
      if (-2147483648 ≤ (q7.1 216 0) ∧ (q7.1 216 0) ≤ 2147483647) then (
      if ¬ (q7.1 215 8) = (q7.1 216 0) then (
        gm_145_85 x1 q7) else (
        if (-2147483648 ≤ (q7.1 215 9) ∧ (q7.1 215 9) ≤ 2147483647) then (
        if (-2147483648 ≤ (q7.1 216 1) ∧ (q7.1 216 1) ≤ 2147483647) then (
        if (q7.1 215 9) = (q7.1 216 1) then (
          gm_145_112 x1 q7) else (
          gm_145_85 x1 q7)) else none) else none)) else none) else none)) else none) else (
    some (((-2) - (q4.2.1 215 6)), q4.2))
theorem gf_145_26 (x1 : Int) (yx1 : Int32) (e1 : yx1 = Int32.ofInt x1) (s : gx_S) (σ : fx_S) (es : σ = gx s) (q : Int × gx_S) (h : gm_145_26 x1 s = some q) : fm_145_26 yx1 σ = some (Int32.ofInt q.1, gx q.2) := by
  unfold gm_145_26 at h
  unfold fm_145_26
  obtain ⟨q2, w1, h⟩ := fx_bd h
  refine gb_bind (gf_143 e1 es w1) ?_
  obtain ⟨q4, w3, h⟩ := fx_bd h
  refine gb_bind (gf_138 (gx_w1 (rfl : _ = gx q2) kg_0) w3) ?_
  by_cases c5 : ¬ (gb q4.1) = 0
  · rw [if_pos c5] at h
    refine gb_t ((gc_ne (gb_b q4.1) kg_0 (gb_r _) (by decide)).mpr c5) ?_
    obtain ⟨q7, w6, h⟩ := fx_bd h
    refine gb_bind (gf_132 (rfl : _ = gx q4.2) w6) ?_
    obtain ⟨z8, h⟩ := fx_gd h
    by_cases c9 : ¬ x1 = 0
    · rw [if_pos c9] at h
      refine gb_t ((gc_ne e1 kg_0 z8 (by decide)).mpr c9) ?_
      exact gf_145_112 _ _ e1 _ _ (rfl : _ = gx q7) _ h
    · rw [if_neg c9] at h
      refine gb_f (fun q => c9 ((gc_ne e1 kg_0 z8 (by decide)).mp q)) ?_
      refine gb_bind (gl_ld (rfl : _ = gx q7) kg_0 ga_216 (by decide)) ?_
      obtain ⟨z12, h⟩ := fx_gd h
      obtain ⟨z13, h⟩ := fx_gd h
      by_cases c14 : ¬ (q7.1 215 8) = (q7.1 216 0)
      · rw [if_pos c14] at h
        refine gb_t ((gc_ne (gf1 (rfl : _ = gx q7) 215 8) (gr (q7.1 216 0)) z12 z13).mpr c14) ?_
        exact gf_145_85 _ _ e1 _ _ (rfl : _ = gx q7) _ h
      · rw [if_neg c14] at h
        refine gb_f (fun q => c14 ((gc_ne (gf1 (rfl : _ = gx q7) 215 8) (gr (q7.1 216 0)) z12 z13).mp q)) ?_
        refine gb_bind (gl_ld (rfl : _ = gx q7) kg_1 ga_216 (by decide)) ?_
        obtain ⟨z17, h⟩ := fx_gd h
        obtain ⟨z18, h⟩ := fx_gd h
        by_cases c19 : (q7.1 215 9) = (q7.1 216 1)
        · rw [if_pos c19] at h
          refine gb_t ((gc_eq (gf1 (rfl : _ = gx q7) 215 9) (gr (q7.1 216 1)) z17 z18).mpr c19) ?_
          exact gf_145_112 _ _ e1 _ _ (rfl : _ = gx q7) _ h
        · rw [if_neg c19] at h
          refine gb_f (fun q => c19 ((gc_eq (gf1 (rfl : _ = gx q7) 215 9) (gr (q7.1 216 1)) z17 z18).mp q)) ?_
          exact gf_145_85 _ _ e1 _ _ (rfl : _ = gx q7) _ h
  · rw [if_neg c5] at h
    refine gb_f (fun q => c5 ((gc_ne (gb_b q4.1) kg_0 (gb_r _) (by decide)).mp q)) ?_
    have h := Option.some.inj h
    subst h
    exact gret (ga_sub kg_m2 (gf1 (rfl : _ = gx q4.2) 215 6)) (rfl : _ = gx q4.2)
def gm_145 (x1 : Int) (s : gx_S) : Option (Int × gx_S) :=
  if (-2147483648 ≤ x1 ∧ x1 ≤ 2147483647) then (
  (gm_130 x1 0 2 s).bind fun q52 =>
  if (gb q52.1) = 0 then (
    some ((-1), q52.2)) else (
    if x1 = 0 then (
      gm_145_26 x1 q52.2) else (
      (gm_144 0 q52.2).bind fun q56 =>
      if ¬ (gb q56.1) = 0 then (
        gm_145_26 x1 q56.2) else (
        some ((-1), q56.2))))) else none
theorem gf_145 {x1 : Int} {yx1 : Int32} (e1 : yx1 = Int32.ofInt x1) {s : gx_S} {σ : fx_S} (es : σ = gx s) {q : Int × gx_S} (h : gm_145 x1 s = some q) : fm_145 yx1 σ = some (Int32.ofInt q.1, gx q.2) := by
  unfold gm_145 at h
  unfold fm_145
  obtain ⟨z50, h⟩ := fx_gd h
  obtain ⟨q52, w51, h⟩ := fx_bd h
  refine gb_bind (gf_130 (ga_i2l e1 z50) kgl_0 kgl_2 es w51) ?_
  by_cases c53 : (gb q52.1) = 0
  · rw [if_pos c53] at h
    refine gb_t ((gc_eq (gb_b q52.1) kg_0 (gb_r _) (by decide)).mpr c53) ?_
    have h := Option.some.inj h
    subst h
    exact gret kg_m1 (rfl : _ = gx q52.2)
  · rw [if_neg c53] at h
    refine gb_f (fun q => c53 ((gc_eq (gb_b q52.1) kg_0 (gb_r _) (by decide)).mp q)) ?_
    by_cases c54 : x1 = 0
    · rw [if_pos c54] at h
      refine gb_t ((gc_eq e1 kg_0 z50 (by decide)).mpr c54) ?_
      exact gf_145_26 _ _ e1 _ _ (rfl : _ = gx q52.2) _ h
    · rw [if_neg c54] at h
      refine gb_f (fun q => c54 ((gc_eq e1 kg_0 z50 (by decide)).mp q)) ?_
      obtain ⟨q56, w55, h⟩ := fx_bd h
      refine gb_bind (gf_144 kg_0 (rfl : _ = gx q52.2) w55) ?_
      by_cases c57 : ¬ (gb q56.1) = 0
      · rw [if_pos c57] at h
        refine gb_t ((gc_ne (gb_b q56.1) kg_0 (gb_r _) (by decide)).mpr c57) ?_
        exact gf_145_26 _ _ e1 _ _ (rfl : _ = gx q56.2) _ h
      · rw [if_neg c57] at h
        refine gb_f (fun q => c57 ((gc_ne (gb_b q56.1) kg_0 (gb_r _) (by decide)).mp q)) ?_
        have h := Option.some.inj h
        subst h
        exact gret kg_m1 (rfl : _ = gx q56.2)

/-! ZoneSharesModel.readsPart()V -/
def gm_146_236 (x2 : Int) (x4 : Int) (s : gx_S) : Option (gx_S) :=
  if 0 ≤ x2 ∧ x2 < 9 then (
  some (gw1 (gw1 s 220 (x2).toNat x4) 215 11 (((Int32.ofInt ((gw1 s 220 (x2).toNat x4).1 215 11) ||| Int32.ofInt (((Int32.ofInt 1 <<< (Int32.ofInt x2 &&& 31))).toInt))).toInt))) else none
theorem gf_146_236 (x2 : Int) (yx2 : Int32) (e2 : yx2 = Int32.ofInt x2) (x4 : Int) (yx4 : Int32) (e4 : yx4 = Int32.ofInt x4) (s : gx_S) (σ : fx_S) (es : σ = gx s) (q : gx_S) (h : gm_146_236 x2 x4 s = some q) : fm_146_236 yx2 yx4 σ = some (gx q) := by
  unfold gm_146_236 at h
  unfold fm_146_236
  obtain ⟨z3, h⟩ := fx_gd h
  refine gb_bind (gl_st es e2 e4 ga_220 z3) ?_
  have h := Option.some.inj h
  subst h
  exact gretv (gx_w1 (rfl : _ = gx (gw1 s 220 (x2).toNat x4)) (ga_o2 (f := (fun a b => (a ||| b))) (gf1 (rfl : _ = gx (gw1 s 220 (x2).toNat x4)) 215 11) (ga_o2 (f := (fun a b => (a <<< (b &&& 31)))) kg_1 e2)))
def gm_146_222 (x2 : Int) (x3 : Int) (x4 : Int) (s : gx_S) : Option (gx_S) :=
  if (-2147483648 ≤ x4 ∧ x4 ≤ 2147483647) then (
  if x4 ≤ 9999 then (
    gm_146_236 x2 x4 s) else (
    (gm_139 2 x3 s).bind fun q4 =>
    gm_146_236 x2 x4 q4)) else none
theorem gf_146_222 (x2 : Int) (yx2 : Int32) (e2 : yx2 = Int32.ofInt x2) (x3 : Int) (yx3 : Int32) (e3 : yx3 = Int32.ofInt x3) (x4 : Int) (yx4 : Int32) (e4 : yx4 = Int32.ofInt x4) (s : gx_S) (σ : fx_S) (es : σ = gx s) (q : gx_S) (h : gm_146_222 x2 x3 x4 s = some q) : fm_146_222 yx2 yx3 yx4 σ = some (gx q) := by
  unfold gm_146_222 at h
  unfold fm_146_222
  obtain ⟨z1, h⟩ := fx_gd h
  by_cases c2 : x4 ≤ 9999
  · rw [if_pos c2] at h
    refine gb_t ((gc_le e4 kg_9999 z1 (by decide)).mpr c2) ?_
    exact gf_146_236 _ _ e2 _ _ e4 _ _ es _ h
  · rw [if_neg c2] at h
    refine gb_f (fun q => c2 ((gc_le e4 kg_9999 z1 (by decide)).mp q)) ?_
    obtain ⟨q4, w3, h⟩ := fx_bd h
    refine gb_bind (gf_139 kg_2 e3 es w3) ?_
    exact gf_146_236 _ _ e2 _ _ e4 _ _ (rfl : _ = gx q4) _ h
def gm_146_164 : Nat → Int → Int → Int → gx_S → Option (gx_S)
  | 0, _, _, _, _ => none
  | n + 1, x2, x3, x4, s =>
    (gm_138 s).bind fun q2 =>
    if (gb q2.1) = 0 then (
      gm_146_222 x2 x3 x4 q2.2) else (
      (gm_137 q2.2).bind fun q5 =>
      if (-2147483648 ≤ q5.1 ∧ q5.1 ≤ 2147483647) then (
      (gm_130 q5.1 48 57 q5.2).bind fun q8 =>
      if (gb q8.1) = 0 then (
        gm_146_222 x2 x3 x4 q8.2) else (
        (gm_137 q8.2).bind fun q11 =>
        if (-2147483648 ≤ (((10 * x4) + q11.1) - 48) ∧ (((10 * x4) + q11.1) - 48) ≤ 2147483647) then (
        gm_146_164 n x2 x3 (if (((10 * x4) + q11.1) - 48) < 10000 then (((10 * x4) + q11.1) - 48) else 10000) (gw1 q11.2 215 5 ((q11.2.1 215 5) + 1))) else none)) else none)
theorem gf_146_164 : ∀ (n : Nat) (x2 : Int) (yx2 : Int32) (e2 : yx2 = Int32.ofInt x2) (x3 : Int) (yx3 : Int32) (e3 : yx3 = Int32.ofInt x3) (x4 : Int) (yx4 : Int32) (e4 : yx4 = Int32.ofInt x4) (s : gx_S) (σ : fx_S) (es : σ = gx s) (q : gx_S), gm_146_164 n x2 x3 x4 s = some q → fm_146_164 n yx2 yx3 yx4 σ = some (gx q) := by
  intro n
  induction n with
  | zero =>
    intro x2 yx2 e2 x3 yx3 e3 x4 yx4 e4 s σ es q  h
    rw [gm_146_164] at h
    exact fx_no h
  | succ n ih =>
    intro x2 yx2 e2 x3 yx3 e3 x4 yx4 e4 s σ es q  h
    rw [gm_146_164] at h
    rw [fm_146_164]
    obtain ⟨q2, w1, h⟩ := fx_bd h
    refine gb_bind (gf_138 es w1) ?_
    by_cases c3 : (gb q2.1) = 0
    · rw [if_pos c3] at h
      refine gb_t ((gc_eq (gb_b q2.1) kg_0 (gb_r _) (by decide)).mpr c3) ?_
      exact gf_146_222 _ _ e2 _ _ e3 _ _ e4 _ _ (rfl : _ = gx q2.2) _ h
    · rw [if_neg c3] at h
      refine gb_f (fun q => c3 ((gc_eq (gb_b q2.1) kg_0 (gb_r _) (by decide)).mp q)) ?_
      obtain ⟨q5, w4, h⟩ := fx_bd h
      refine gb_bind (gf_137 (rfl : _ = gx q2.2) w4) ?_
      obtain ⟨z6, h⟩ := fx_gd h
      obtain ⟨q8, w7, h⟩ := fx_bd h
      refine gb_bind (gf_130 (ga_i2l (gr q5.1) z6) kgl_48 kgl_57 (rfl : _ = gx q5.2) w7) ?_
      by_cases c9 : (gb q8.1) = 0
      · rw [if_pos c9] at h
        refine gb_t ((gc_eq (gb_b q8.1) kg_0 (gb_r _) (by decide)).mpr c9) ?_
        exact gf_146_222 _ _ e2 _ _ e3 _ _ e4 _ _ (rfl : _ = gx q8.2) _ h
      · rw [if_neg c9] at h
        refine gb_f (fun q => c9 ((gc_eq (gb_b q8.1) kg_0 (gb_r _) (by decide)).mp q)) ?_
        obtain ⟨q11, w10, h⟩ := fx_bd h
        refine gb_bind (gf_137 (rfl : _ = gx q8.2) w10) ?_
        obtain ⟨z12, h⟩ := fx_gd h
        exact ih _ _ e2 _ _ e3 _ _ (ga_lt_ite kg_10000 (ga_sub (ga_add (ga_mul kg_10 e4) (gr q11.1)) kg_48) (by decide) z12) _ _ (gx_w1 (rfl : _ = gx q11.2) (ga_add (gf1 (rfl : _ = gx q11.2) 215 5) kg_1)) _ h
def gm_146_161 (x2 : Int) (x3 : Int) (s : gx_S) : Option (gx_S) :=
  gm_146_164 100000 x2 x3 0 s
theorem gf_146_161 (x2 : Int) (yx2 : Int32) (e2 : yx2 = Int32.ofInt x2) (x3 : Int) (yx3 : Int32) (e3 : yx3 = Int32.ofInt x3) (s : gx_S) (σ : fx_S) (es : σ = gx s) (q : gx_S) (h : gm_146_161 x2 x3 s = some q) : fm_146_161 yx2 yx3 σ = some (gx q) := by
  unfold gm_146_161 at h
  unfold fm_146_161
  exact gf_146_164 100000 _ _ e2 _ _ e3 _ _ kg_0 _ _ es _ h
def gm_146_113 (x2 : Int) (s : gx_S) : Option (gx_S) :=
  (gm_138 (gw1 s 215 5 ((s.1 215 5) + 1))).bind fun q2 =>
  if (gb q2.1) = 0 then (
    gm_146_161 x2 ((gw1 s 215 5 ((s.1 215 5) + 1)).1 215 5) q2.2) else (
    (gm_137 q2.2).bind fun q5 =>
    if (-2147483648 ≤ q5.1 ∧ q5.1 ≤ 2147483647) then (
    (gm_130 q5.1 48 57 q5.2).bind fun q8 =>
    if ¬ (gb q8.1) = 0 then (
      gm_146_161 x2 ((gw1 s 215 5 ((s.1 215 5) + 1)).1 215 5) q8.2) else (
      (gm_139 1 (q8.2.1 215 5) q8.2).bind fun q11 =>
      gm_146_161 x2 ((gw1 s 215 5 ((s.1 215 5) + 1)).1 215 5) q11)) else none)
theorem gf_146_113 (x2 : Int) (yx2 : Int32) (e2 : yx2 = Int32.ofInt x2) (s : gx_S) (σ : fx_S) (es : σ = gx s) (q : gx_S) (h : gm_146_113 x2 s = some q) : fm_146_113 yx2 σ = some (gx q) := by
  unfold gm_146_113 at h
  unfold fm_146_113
  obtain ⟨q2, w1, h⟩ := fx_bd h
  refine gb_bind (gf_138 (gx_w1 es (ga_add (gf1 es 215 5) kg_1)) w1) ?_
  by_cases c3 : (gb q2.1) = 0
  · rw [if_pos c3] at h
    refine gb_t ((gc_eq (gb_b q2.1) kg_0 (gb_r _) (by decide)).mpr c3) ?_
    exact gf_146_161 _ _ e2 _ _ (gf1 (gx_w1 es (ga_add (gf1 es 215 5) kg_1)) 215 5) _ _ (rfl : _ = gx q2.2) _ h
  · rw [if_neg c3] at h
    refine gb_f (fun q => c3 ((gc_eq (gb_b q2.1) kg_0 (gb_r _) (by decide)).mp q)) ?_
    obtain ⟨q5, w4, h⟩ := fx_bd h
    refine gb_bind (gf_137 (rfl : _ = gx q2.2) w4) ?_
    obtain ⟨z6, h⟩ := fx_gd h
    obtain ⟨q8, w7, h⟩ := fx_bd h
    refine gb_bind (gf_130 (ga_i2l (gr q5.1) z6) kgl_48 kgl_57 (rfl : _ = gx q5.2) w7) ?_
    by_cases c9 : ¬ (gb q8.1) = 0
    · rw [if_pos c9] at h
      refine gb_t ((gc_ne (gb_b q8.1) kg_0 (gb_r _) (by decide)).mpr c9) ?_
      exact gf_146_161 _ _ e2 _ _ (gf1 (gx_w1 es (ga_add (gf1 es 215 5) kg_1)) 215 5) _ _ (rfl : _ = gx q8.2) _ h
    · rw [if_neg c9] at h
      refine gb_f (fun q => c9 ((gc_ne (gb_b q8.1) kg_0 (gb_r _) (by decide)).mp q)) ?_
      obtain ⟨q11, w10, h⟩ := fx_bd h
      refine gb_bind (gf_139 kg_1 (gf1 (rfl : _ = gx q8.2) 215 5) (rfl : _ = gx q8.2) w10) ?_
      exact gf_146_161 _ _ e2 _ _ (gf1 (gx_w1 es (ga_add (gf1 es 215 5) kg_1)) 215 5) _ _ (rfl : _ = gx q11) _ h
def gm_146_78 (x2 : Int) (s : gx_S) : Option (gx_S) :=
  (gm_138 (gw1 s 215 5 ((s.1 215 5) + 1))).bind fun q2 =>
  if (gb q2.1) = 0 then (
    gm_146_113 x2 q2.2) else (
    (gm_137 q2.2).bind fun q5 =>
    if (-2147483648 ≤ q5.1 ∧ q5.1 ≤ 2147483647) then (
    if q5.1 = 61 then (
      gm_146_113 x2 q5.2) else (
      (gm_139 1 (q5.2.1 215 5) q5.2).bind fun q9 =>
      gm_146_113 x2 q9)) else none)
theorem gf_146_78 (x2 : Int) (yx2 : Int32) (e2 : yx2 = Int32.ofInt x2) (s : gx_S) (σ : fx_S) (es : σ = gx s) (q : gx_S) (h : gm_146_78 x2 s = some q) : fm_146_78 yx2 σ = some (gx q) := by
  unfold gm_146_78 at h
  unfold fm_146_78
  obtain ⟨q2, w1, h⟩ := fx_bd h
  refine gb_bind (gf_138 (gx_w1 es (ga_add (gf1 es 215 5) kg_1)) w1) ?_
  by_cases c3 : (gb q2.1) = 0
  · rw [if_pos c3] at h
    refine gb_t ((gc_eq (gb_b q2.1) kg_0 (gb_r _) (by decide)).mpr c3) ?_
    exact gf_146_113 _ _ e2 _ _ (rfl : _ = gx q2.2) _ h
  · rw [if_neg c3] at h
    refine gb_f (fun q => c3 ((gc_eq (gb_b q2.1) kg_0 (gb_r _) (by decide)).mp q)) ?_
    obtain ⟨q5, w4, h⟩ := fx_bd h
    refine gb_bind (gf_137 (rfl : _ = gx q2.2) w4) ?_
    obtain ⟨z6, h⟩ := fx_gd h
    by_cases c7 : q5.1 = 61
    · rw [if_pos c7] at h
      refine gb_t ((gc_eq (gr q5.1) kg_61 z6 (by decide)).mpr c7) ?_
      exact gf_146_113 _ _ e2 _ _ (rfl : _ = gx q5.2) _ h
    · rw [if_neg c7] at h
      refine gb_f (fun q => c7 ((gc_eq (gr q5.1) kg_61 z6 (by decide)).mp q)) ?_
      obtain ⟨q9, w8, h⟩ := fx_bd h
      refine gb_bind (gf_139 kg_1 (gf1 (rfl : _ = gx q5.2) 215 5) (rfl : _ = gx q5.2) w8) ?_
      exact gf_146_113 _ _ e2 _ _ (rfl : _ = gx q9) _ h
def gm_146_47 (x1 : Int) (s0 : Int) (s : gx_S) : Option (gx_S) :=
  if (-2147483648 ≤ s0 ∧ s0 ≤ 2147483647) then (
  if ¬ s0 = (-1) then (
    if (-2147483648 ≤ ((Int32.ofInt (((Int32.ofInt (s.1 215 11) >>> (Int32.ofInt s0 &&& 31))).toInt) &&& Int32.ofInt 1)).toInt ∧ ((Int32.ofInt (((Int32.ofInt (s.1 215 11) >>> (Int32.ofInt s0 &&& 31))).toInt) &&& Int32.ofInt 1)).toInt ≤ 2147483647) then (
    if ¬ ((Int32.ofInt (((Int32.ofInt (s.1 215 11) >>> (Int32.ofInt s0 &&& 31))).toInt) &&& Int32.ofInt 1)).toInt = 1 then (
      gm_146_78 s0 s) else (
      (gm_139 3 x1 s).bind fun q6 =>
      gm_146_78 s0 q6)) else none) else (
    (gm_139 1 x1 s).bind fun q8 =>
    some q8)) else none
theorem gf_146_47 (x1 : Int) (yx1 : Int32) (e1 : yx1 = Int32.ofInt x1) (s0 : Int) (ys0 : Int32) (es0 : ys0 = Int32.ofInt s0) (s : gx_S) (σ : fx_S) (es : σ = gx s) (q : gx_S) (h : gm_146_47 x1 s0 s = some q) : fm_146_47 yx1 ys0 σ = some (gx q) := by
  unfold gm_146_47 at h
  unfold fm_146_47
  obtain ⟨z1, h⟩ := fx_gd h
  by_cases c2 : ¬ s0 = (-1)
  · rw [if_pos c2] at h
    refine gb_t ((gc_ne es0 kg_m1 z1 (by decide)).mpr c2) ?_
    obtain ⟨z3, h⟩ := fx_gd h
    by_cases c4 : ¬ ((Int32.ofInt (((Int32.ofInt (s.1 215 11) >>> (Int32.ofInt s0 &&& 31))).toInt) &&& Int32.ofInt 1)).toInt = 1
    · rw [if_pos c4] at h
      refine gb_t ((gc_ne (ga_o2 (f := (fun a b => (a &&& b))) (ga_o2 (f := (fun a b => (a >>> (b &&& 31)))) (gf1 es 215 11) es0) kg_1) kg_1 z3 (by decide)).mpr c4) ?_
      exact gf_146_78 _ _ es0 _ _ es _ h
    · rw [if_neg c4] at h
      refine gb_f (fun q => c4 ((gc_ne (ga_o2 (f := (fun a b => (a &&& b))) (ga_o2 (f := (fun a b => (a >>> (b &&& 31)))) (gf1 es 215 11) es0) kg_1) kg_1 z3 (by decide)).mp q)) ?_
      obtain ⟨q6, w5, h⟩ := fx_bd h
      refine gb_bind (gf_139 kg_3 e1 es w5) ?_
      exact gf_146_78 _ _ es0 _ _ (rfl : _ = gx q6) _ h
  · rw [if_neg c2] at h
    refine gb_f (fun q => c2 ((gc_ne es0 kg_m1 z1 (by decide)).mp q)) ?_
    obtain ⟨q8, w7, h⟩ := fx_bd h
    refine gb_bind (gf_139 kg_1 e1 es w7) ?_
    have h := Option.some.inj h
    subst h
    exact gretv (rfl : _ = gx q8)
def gm_146 (s : gx_S) : Option (gx_S) :=
  (gm_137 s).bind fun q61 =>
  if (-2147483648 ≤ q61.1 ∧ q61.1 ≤ 2147483647) then (
  if ¬ q61.1 = 63 then (
    (gm_137 q61.2).bind fun q65 =>
    if (-2147483648 ≤ q65.1 ∧ q65.1 ≤ 2147483647) then (
    (gm_130 q65.1 97 104 q65.2).bind fun q68 =>
    if (gb q68.1) = 0 then (
      gm_146_47 (s.1 215 5) (-1) q68.2) else (
      (gm_137 q68.2).bind fun q71 =>
      gm_146_47 (s.1 215 5) (q71.1 - 97) q71.2)) else none) else (
    gm_146_47 (s.1 215 5) 8 q61.2)) else none
theorem gf_146 {s : gx_S} {σ : fx_S} (es : σ = gx s) {q : gx_S} (h : gm_146 s = some q) : fm_146 σ = some (gx q) := by
  unfold gm_146 at h
  unfold fm_146
  obtain ⟨q61, w60, h⟩ := fx_bd h
  refine gb_bind (gf_137 es w60) ?_
  obtain ⟨z62, h⟩ := fx_gd h
  by_cases c63 : ¬ q61.1 = 63
  · rw [if_pos c63] at h
    refine gb_t ((gc_ne (gr q61.1) kg_63 z62 (by decide)).mpr c63) ?_
    obtain ⟨q65, w64, h⟩ := fx_bd h
    refine gb_bind (gf_137 (rfl : _ = gx q61.2) w64) ?_
    obtain ⟨z66, h⟩ := fx_gd h
    obtain ⟨q68, w67, h⟩ := fx_bd h
    refine gb_bind (gf_130 (ga_i2l (gr q65.1) z66) kgl_97 kgl_104 (rfl : _ = gx q65.2) w67) ?_
    by_cases c69 : (gb q68.1) = 0
    · rw [if_pos c69] at h
      refine gb_t ((gc_eq (gb_b q68.1) kg_0 (gb_r _) (by decide)).mpr c69) ?_
      exact gf_146_47 _ _ (gf1 es 215 5) _ _ kg_m1 _ _ (rfl : _ = gx q68.2) _ h
    · rw [if_neg c69] at h
      refine gb_f (fun q => c69 ((gc_eq (gb_b q68.1) kg_0 (gb_r _) (by decide)).mp q)) ?_
      obtain ⟨q71, w70, h⟩ := fx_bd h
      refine gb_bind (gf_137 (rfl : _ = gx q68.2) w70) ?_
      exact gf_146_47 _ _ (gf1 es 215 5) _ _ (ga_sub (gr q71.1) kg_97) _ _ (rfl : _ = gx q71.2) _ h
  · rw [if_neg c63] at h
    refine gb_f (fun q => c63 ((gc_ne (gr q61.1) kg_63 z62 (by decide)).mp q)) ?_
    exact gf_146_47 _ _ (gf1 es 215 5) _ _ kg_8 _ _ (rfl : _ = gx q61.2) _ h

/-! ZoneSharesModel.readsCounts()V -/
def gm_147_78 (k_49 : Int → gx_S → Option (gx_S)) (s0 : Int) (s : gx_S) : Option (gx_S) :=
  (gm_131 s0 s).bind fun q2 =>
  k_49 s0 (gw1 q2.2 215 5 ((s.1 215 5) + q2.1))
theorem gf_147_78 {kf_49 : Int32 → fx_S → Option (fx_S)} {kg_49 : Int → gx_S → Option (gx_S)} (hk_49 : ∀ (x1 : Int) (yx1 : Int32) (e1 : yx1 = Int32.ofInt x1) (s : gx_S) (σ : fx_S) (es : σ = gx s) (q : gx_S), kg_49 x1 s = some q → kf_49 yx1 σ = some (gx q)) (s0 : Int) (ys0 : Int32) (es0 : ys0 = Int32.ofInt s0) (s : gx_S) (σ : fx_S) (es : σ = gx s) (q : gx_S) (h : gm_147_78 kg_49 s0 s = some q) : fm_147_78 kf_49 ys0 σ = some (gx q) := by
  unfold gm_147_78 at h
  unfold fm_147_78
  obtain ⟨q2, w1, h⟩ := fx_bd h
  refine gb_bind (gf_131 es0 es w1) ?_
  exact hk_49 _ _ es0 _ _ (gx_w1 (rfl : _ = gx q2.2) (ga_add (gf1 es 215 5) (gr q2.1))) _ h
def gm_147_49 : Nat → Int → gx_S → Option (gx_S)
  | 0, _, _ => none
  | n + 1, x1, s =>
    if (-2147483648 ≤ x1 ∧ x1 ≤ 2147483647) then (
    if x1 = 0 then (
      (gm_138 s).bind fun q4 =>
      if (gb q4.1) = 0 then (
        some q4.2) else (
        (gm_137 q4.2).bind fun q7 =>
        if (-2147483648 ≤ q7.1 ∧ q7.1 ≤ 2147483647) then (
        if q7.1 = (-1) then (
          some q7.2) else (
          (gm_139 1 (q7.2.1 215 5) q7.2).bind fun q11 =>
          some q11)) else none)) else (
      (gm_146 s).bind fun q13 =>
      (gm_138 q13).bind fun q15 =>
      if (gb q15.1) = 0 then (
        gm_147_78 (gm_147_49 n) 0 q15.2) else (
        (gm_137 q15.2).bind fun q18 =>
        if (-2147483648 ≤ q18.1 ∧ q18.1 ≤ 2147483647) then (
        if ¬ q18.1 = 44 then (
          gm_147_78 (gm_147_49 n) 0 q18.2) else (
          gm_147_78 (gm_147_49 n) 1 q18.2)) else none))) else none
theorem gf_147_49 : ∀ (n : Nat) (x1 : Int) (yx1 : Int32) (e1 : yx1 = Int32.ofInt x1) (s : gx_S) (σ : fx_S) (es : σ = gx s) (q : gx_S), gm_147_49 n x1 s = some q → fm_147_49 n yx1 σ = some (gx q) := by
  intro n
  induction n with
  | zero =>
    intro x1 yx1 e1 s σ es q  h
    rw [gm_147_49] at h
    exact fx_no h
  | succ n ih =>
    intro x1 yx1 e1 s σ es q  h
    rw [gm_147_49] at h
    rw [fm_147_49]
    obtain ⟨z1, h⟩ := fx_gd h
    by_cases c2 : x1 = 0
    · rw [if_pos c2] at h
      refine gb_t ((gc_eq e1 kg_0 z1 (by decide)).mpr c2) ?_
      obtain ⟨q4, w3, h⟩ := fx_bd h
      refine gb_bind (gf_138 es w3) ?_
      by_cases c5 : (gb q4.1) = 0
      · rw [if_pos c5] at h
        refine gb_t ((gc_eq (gb_b q4.1) kg_0 (gb_r _) (by decide)).mpr c5) ?_
        have h := Option.some.inj h
        subst h
        exact gretv (rfl : _ = gx q4.2)
      · rw [if_neg c5] at h
        refine gb_f (fun q => c5 ((gc_eq (gb_b q4.1) kg_0 (gb_r _) (by decide)).mp q)) ?_
        obtain ⟨q7, w6, h⟩ := fx_bd h
        refine gb_bind (gf_137 (rfl : _ = gx q4.2) w6) ?_
        obtain ⟨z8, h⟩ := fx_gd h
        by_cases c9 : q7.1 = (-1)
        · rw [if_pos c9] at h
          refine gb_t ((gc_eq (gr q7.1) kg_m1 z8 (by decide)).mpr c9) ?_
          have h := Option.some.inj h
          subst h
          exact gretv (rfl : _ = gx q7.2)
        · rw [if_neg c9] at h
          refine gb_f (fun q => c9 ((gc_eq (gr q7.1) kg_m1 z8 (by decide)).mp q)) ?_
          obtain ⟨q11, w10, h⟩ := fx_bd h
          refine gb_bind (gf_139 kg_1 (gf1 (rfl : _ = gx q7.2) 215 5) (rfl : _ = gx q7.2) w10) ?_
          have h := Option.some.inj h
          subst h
          exact gretv (rfl : _ = gx q11)
    · rw [if_neg c2] at h
      refine gb_f (fun q => c2 ((gc_eq e1 kg_0 z1 (by decide)).mp q)) ?_
      obtain ⟨q13, w12, h⟩ := fx_bd h
      refine gb_bind (gf_146 es w12) ?_
      obtain ⟨q15, w14, h⟩ := fx_bd h
      refine gb_bind (gf_138 (rfl : _ = gx q13) w14) ?_
      by_cases c16 : (gb q15.1) = 0
      · rw [if_pos c16] at h
        refine gb_t ((gc_eq (gb_b q15.1) kg_0 (gb_r _) (by decide)).mpr c16) ?_
        exact gf_147_78 ih _ _ kg_0 _ _ (rfl : _ = gx q15.2) _ h
      · rw [if_neg c16] at h
        refine gb_f (fun q => c16 ((gc_eq (gb_b q15.1) kg_0 (gb_r _) (by decide)).mp q)) ?_
        obtain ⟨q18, w17, h⟩ := fx_bd h
        refine gb_bind (gf_137 (rfl : _ = gx q15.2) w17) ?_
        obtain ⟨z19, h⟩ := fx_gd h
        by_cases c20 : ¬ q18.1 = 44
        · rw [if_pos c20] at h
          refine gb_t ((gc_ne (gr q18.1) kg_44 z19 (by decide)).mpr c20) ?_
          exact gf_147_78 ih _ _ kg_0 _ _ (rfl : _ = gx q18.2) _ h
        · rw [if_neg c20] at h
          refine gb_f (fun q => c20 ((gc_ne (gr q18.1) kg_44 z19 (by decide)).mp q)) ?_
          exact gf_147_78 ih _ _ kg_1 _ _ (rfl : _ = gx q18.2) _ h
def gm_147_48 (s0 : Int) (s : gx_S) : Option (gx_S) :=
  gm_147_49 100000 s0 s
theorem gf_147_48 (s0 : Int) (ys0 : Int32) (es0 : ys0 = Int32.ofInt s0) (s : gx_S) (σ : fx_S) (es : σ = gx s) (q : gx_S) (h : gm_147_48 s0 s = some q) : fm_147_48 ys0 σ = some (gx q) := by
  unfold gm_147_48 at h
  unfold fm_147_48
  exact gf_147_49 100000 _ _ es0 _ _ es _ h
def gm_147_17 : Nat → Int → gx_S → Option (gx_S)
  | 0, _, _ => none
  | n + 1, x1, s =>
    if (-2147483648 ≤ x1 ∧ x1 ≤ 2147483647) then (
    if 9 ≤ x1 then (
      if (-2147483648 ≤ (s.1 215 4) ∧ (s.1 215 4) ≤ 2147483647) then (
      if (s.1 215 4) ≤ 0 then (
        gm_147_48 0 s) else (
        gm_147_48 1 s)) else none) else (
      if 0 ≤ x1 ∧ x1 < 9 then (
      gm_147_17 n (x1 + 1) (gw1 s 220 (x1).toNat 0)) else none)) else none
theorem gf_147_17 : ∀ (n : Nat) (x1 : Int) (yx1 : Int32) (e1 : yx1 = Int32.ofInt x1) (s : gx_S) (σ : fx_S) (es : σ = gx s) (q : gx_S), gm_147_17 n x1 s = some q → fm_147_17 n yx1 σ = some (gx q) := by
  intro n
  induction n with
  | zero =>
    intro x1 yx1 e1 s σ es q  h
    rw [gm_147_17] at h
    exact fx_no h
  | succ n ih =>
    intro x1 yx1 e1 s σ es q  h
    rw [gm_147_17] at h
    rw [fm_147_17]
    obtain ⟨z1, h⟩ := fx_gd h
    by_cases c2 : 9 ≤ x1
    · rw [if_pos c2] at h
      refine gb_t ((gc_le kg_9 e1 (by decide) z1).mpr c2) ?_
      obtain ⟨z3, h⟩ := fx_gd h
      by_cases c4 : (s.1 215 4) ≤ 0
      · rw [if_pos c4] at h
        refine gb_t ((gc_le (gf1 es 215 4) kg_0 z3 (by decide)).mpr c4) ?_
        exact gf_147_48 _ _ kg_0 _ _ es _ h
      · rw [if_neg c4] at h
        refine gb_f (fun q => c4 ((gc_le (gf1 es 215 4) kg_0 z3 (by decide)).mp q)) ?_
        exact gf_147_48 _ _ kg_1 _ _ es _ h
    · rw [if_neg c2] at h
      refine gb_f (fun q => c2 ((gc_le kg_9 e1 (by decide) z1).mp q)) ?_
      obtain ⟨z7, h⟩ := fx_gd h
      refine gb_bind (gl_st es e1 kg_0 ga_220 z7) ?_
      exact ih _ _ (ga_add e1 kg_1) _ _ (rfl : _ = gx (gw1 s 220 (x1).toNat 0)) _ h
def gm_147 (s : gx_S) : Option (gx_S) :=
  gm_147_17 100000 0 (gw1 (gw1 (gw1 s 215 5 0) 215 6 (-1)) 215 11 0)
theorem gf_147 {s : gx_S} {σ : fx_S} (es : σ = gx s) {q : gx_S} (h : gm_147 s = some q) : fm_147 σ = some (gx q) := by
  unfold gm_147 at h
  unfold fm_147
  exact gf_147_17 100000 _ _ kg_0 _ _ (gx_w1 (gx_w1 (gx_w1 es kg_0) kg_m1) kg_0) _ h

/-! ZoneSharesModel.isGroup(I)Z -/
def gm_148 (x0 : Int) (s : gx_S) : Option (Bool × gx_S) :=
  if (-2147483648 ≤ x0 ∧ x0 ≤ 2147483647) then (
  (gm_130 x0 0 2 s).bind fun q6 =>
  some (q6.1, q6.2)) else none
theorem gf_148 {x0 : Int} {yx0 : Int32} (e0 : yx0 = Int32.ofInt x0) {s : gx_S} {σ : fx_S} (es : σ = gx s) {q : Bool × gx_S} (h : gm_148 x0 s = some q) : fm_148 yx0 σ = some (q.1, gx q.2) := by
  unfold gm_148 at h
  unfold fm_148
  obtain ⟨z4, h⟩ := fx_gd h
  obtain ⟨q6, w5, h⟩ := fx_bd h
  refine gb_bind (gf_130 (ga_i2l e0 z4) kgl_0 kgl_2 es w5) ?_
  have h := Option.some.inj h
  subst h
  exact gretb (rfl : _ = gx q6.2)

/-! ZoneSharesModel.counts(I)I -/
def gm_149_41 : Nat → Int → Int → Int → gx_S → Option (Int × gx_S)
  | 0, _, _, _, _ => none
  | n + 1, x1, x2, x3, s =>
    if (-2147483648 ≤ x3 ∧ x3 ≤ 2147483647) then (
    if 9 ≤ x3 then (
      some (x2, s)) else (
      if 0 ≤ x3 ∧ x3 < 9 then (
      if 0 ≤ ((5 + (9 * x1)) + x3) ∧ ((5 + (9 * x1)) + x3) < 340 then (
      gm_149_41 n x1 (x2 + ((gw1 s 216 (((5 + (9 * x1)) + x3)).toNat (s.1 220 (x3).toNat)).1 220 (x3).toNat)) (x3 + 1) (gw1 s 216 (((5 + (9 * x1)) + x3)).toNat (s.1 220 (x3).toNat))) else none) else none)) else none
theorem gf_149_41 : ∀ (n : Nat) (x1 : Int) (yx1 : Int32) (e1 : yx1 = Int32.ofInt x1) (x2 : Int) (yx2 : Int32) (e2 : yx2 = Int32.ofInt x2) (x3 : Int) (yx3 : Int32) (e3 : yx3 = Int32.ofInt x3) (s : gx_S) (σ : fx_S) (es : σ = gx s) (q : Int × gx_S), gm_149_41 n x1 x2 x3 s = some q → fm_149_41 n yx1 yx2 yx3 σ = some (Int32.ofInt q.1, gx q.2) := by
  intro n
  induction n with
  | zero =>
    intro x1 yx1 e1 x2 yx2 e2 x3 yx3 e3 s σ es q  h
    rw [gm_149_41] at h
    exact fx_no h
  | succ n ih =>
    intro x1 yx1 e1 x2 yx2 e2 x3 yx3 e3 s σ es q  h
    rw [gm_149_41] at h
    rw [fm_149_41]
    obtain ⟨z1, h⟩ := fx_gd h
    by_cases c2 : 9 ≤ x3
    · rw [if_pos c2] at h
      refine gb_t ((gc_le kg_9 e3 (by decide) z1).mpr c2) ?_
      have h := Option.some.inj h
      subst h
      exact gret e2 es
    · rw [if_neg c2] at h
      refine gb_f (fun q => c2 ((gc_le kg_9 e3 (by decide) z1).mp q)) ?_
      obtain ⟨z5, h⟩ := fx_gd h
      refine gb_bind (gl_ld es e3 ga_220 z5) ?_
      obtain ⟨z8, h⟩ := fx_gd h
      refine gb_bind (gl_st es (ga_add (ga_add kg_5 (ga_mul kg_9 e1)) e3) (gr (s.1 220 (x3).toNat)) ga_216 z8) ?_
      refine gb_bind (gl_ld (rfl : _ = gx (gw1 s 216 (((5 + (9 * x1)) + x3)).toNat (s.1 220 (x3).toNat))) e3 ga_220 z5) ?_
      exact ih _ _ e1 _ _ (ga_add e2 (gr ((gw1 s 216 (((5 + (9 * x1)) + x3)).toNat (s.1 220 (x3).toNat)).1 220 (x3).toNat))) _ _ (ga_add e3 kg_1) _ _ (rfl : _ = gx (gw1 s 216 (((5 + (9 * x1)) + x3)).toNat (s.1 220 (x3).toNat))) _ h
def gm_149 (x1 : Int) (s : gx_S) : Option (Int × gx_S) :=
  (gm_148 x1 s).bind fun q22 =>
  if ¬ (gb q22.1) = 0 then (
    (gm_147 q22.2).bind fun q25 =>
    (gm_138 (gw1 q25 215 4 0)).bind fun q27 =>
    if ¬ (gb q27.1) = 0 then (
      (gm_132 q27.2).bind fun q30 =>
      gm_149_41 100000 x1 0 0 q30) else (
      some (((-2) - (q27.2.1 215 6)), q27.2))) else (
    some ((-1), q22.2))
theorem gf_149 {x1 : Int} {yx1 : Int32} (e1 : yx1 = Int32.ofInt x1) {s : gx_S} {σ : fx_S} (es : σ = gx s) {q : Int × gx_S} (h : gm_149 x1 s = some q) : fm_149 yx1 σ = some (Int32.ofInt q.1, gx q.2) := by
  unfold gm_149 at h
  unfold fm_149
  obtain ⟨q22, w21, h⟩ := fx_bd h
  refine gb_bind (gf_148 e1 es w21) ?_
  by_cases c23 : ¬ (gb q22.1) = 0
  · rw [if_pos c23] at h
    refine gb_t ((gc_ne (gb_b q22.1) kg_0 (gb_r _) (by decide)).mpr c23) ?_
    obtain ⟨q25, w24, h⟩ := fx_bd h
    refine gb_bind (gf_147 (rfl : _ = gx q22.2) w24) ?_
    obtain ⟨q27, w26, h⟩ := fx_bd h
    refine gb_bind (gf_138 (gx_w1 (rfl : _ = gx q25) kg_0) w26) ?_
    by_cases c28 : ¬ (gb q27.1) = 0
    · rw [if_pos c28] at h
      refine gb_t ((gc_ne (gb_b q27.1) kg_0 (gb_r _) (by decide)).mpr c28) ?_
      obtain ⟨q30, w29, h⟩ := fx_bd h
      refine gb_bind (gf_132 (rfl : _ = gx q27.2) w29) ?_
      exact gf_149_41 100000 _ _ e1 _ _ kg_0 _ _ kg_0 _ _ (rfl : _ = gx q30) _ h
    · rw [if_neg c28] at h
      refine gb_f (fun q => c28 ((gc_ne (gb_b q27.1) kg_0 (gb_r _) (by decide)).mp q)) ?_
      have h := Option.some.inj h
      subst h
      exact gret (ga_sub kg_m2 (gf1 (rfl : _ = gx q27.2) 215 6)) (rfl : _ = gx q27.2)
  · rw [if_neg c23] at h
    refine gb_f (fun q => c23 ((gc_ne (gb_b q22.1) kg_0 (gb_r _) (by decide)).mp q)) ?_
    have h := Option.some.inj h
    subst h
    exact gret kg_m1 (rfl : _ = gx q22.2)

/-! ZoneSharesModel.isWhole()Z -/
def gm_150 (s : gx_S) : Option (Bool × gx_S) :=
  if (-2147483648 ≤ (s.1 216 2) ∧ (s.1 216 2) ≤ 2147483647) then (
  if ¬ (s.1 216 2) = 7 then (
    some (false, s)) else (
    some (true, s))) else none
theorem gf_150 {s : gx_S} {σ : fx_S} (es : σ = gx s) {q : Bool × gx_S} (h : gm_150 s = some q) : fm_150 σ = some (q.1, gx q.2) := by
  unfold gm_150 at h
  unfold fm_150
  refine gb_bind (gl_ld es kg_2 ga_216 (by decide)) ?_
  obtain ⟨z7, h⟩ := fx_gd h
  by_cases c8 : ¬ (s.1 216 2) = 7
  · rw [if_pos c8] at h
    refine gb_t ((gc_ne (gr (s.1 216 2)) kg_7 z7 (by decide)).mpr c8) ?_
    have h := Option.some.inj h
    subst h
    exact gretb es
  · rw [if_neg c8] at h
    refine gb_f (fun q => c8 ((gc_ne (gr (s.1 216 2)) kg_7 z7 (by decide)).mp q)) ?_
    have h := Option.some.inj h
    subst h
    exact gretb es

/-! ZoneSharesModel.cellMany()I -/
def gm_151 (s : gx_S) : Option (Int × gx_S) :=
  some (((s.1 216 0) * (s.1 216 1)), s)
theorem gf_151 {s : gx_S} {σ : fx_S} (es : σ = gx s) {q : Int × gx_S} (h : gm_151 s = some q) : fm_151 σ = some (Int32.ofInt q.1, gx q.2) := by
  unfold gm_151 at h
  unfold fm_151
  refine gb_bind (gl_ld es kg_0 ga_216 (by decide)) ?_
  refine gb_bind (gl_ld es kg_1 ga_216 (by decide)) ?_
  have h := Option.some.inj h
  subst h
  exact gret (ga_mul (gr (s.1 216 0)) (gr (s.1 216 1))) es

/-! ZoneSharesModel.codeAt(II)I -/
def gm_152 (x1 : Int) (x2 : Int) (s : gx_S) : Option (Int × gx_S) :=
  if 0 ≤ x2 ∧ x2 ≤ 2147483647 ∧ 0 < (s.1 216 1) ∧ (s.1 216 1) ≤ 2147483647 then (
  if 0 ≤ (((52 + (96 * x1)) + (12 * (x2 / (s.1 216 1)))) + (x2 % (s.1 216 1))) ∧ (((52 + (96 * x1)) + (12 * (x2 / (s.1 216 1)))) + (x2 % (s.1 216 1))) < 340 then (
  some ((s.1 216 ((((52 + (96 * x1)) + (12 * (x2 / (s.1 216 1)))) + (x2 % (s.1 216 1)))).toNat), s)) else none) else none
theorem gf_152 {x1 : Int} {yx1 : Int32} (e1 : yx1 = Int32.ofInt x1) {x2 : Int} {yx2 : Int32} (e2 : yx2 = Int32.ofInt x2) {s : gx_S} {σ : fx_S} (es : σ = gx s) {q : Int × gx_S} (h : gm_152 x1 x2 s = some q) : fm_152 yx1 yx2 σ = some (Int32.ofInt q.1, gx q.2) := by
  unfold gm_152 at h
  unfold fm_152
  refine gb_bind (gl_ld es kg_1 ga_216 (by decide)) ?_
  obtain ⟨z13, h⟩ := fx_gd h
  refine gb_t (gc_nz (gr (s.1 216 1)) z13) ?_
  refine gb_bind (gl_ld es kg_1 ga_216 (by decide)) ?_
  refine gb_t (gc_nz (gr (s.1 216 1)) z13) ?_
  obtain ⟨z20, h⟩ := fx_gd h
  refine gb_bind (gl_ld es (ga_add (ga_add (ga_add kg_52 (ga_mul kg_96 e1)) (ga_mul kg_12 (ga_div e2 (gr (s.1 216 1)) z13))) (ga_rem e2 (gr (s.1 216 1)) z13)) ga_216 z20) ?_
  have h := Option.some.inj h
  subst h
  exact gret (gr (s.1 216 ((((52 + (96 * x1)) + (12 * (x2 / (s.1 216 1)))) + (x2 % (s.1 216 1)))).toNat)) es

/-! ZoneSharesModel.hasZone(II)Z -/
def gm_153_2 : Nat → Int → Int → Int → gx_S → Option (Bool × gx_S)
  | 0, _, _, _, _ => none
  | n + 1, x1, x2, x3, s =>
    (gm_151 s).bind fun q2 =>
    if (-2147483648 ≤ x3 ∧ x3 ≤ 2147483647) then (
    if (-2147483648 ≤ q2.1 ∧ q2.1 ≤ 2147483647) then (
    if q2.1 ≤ x3 then (
      some (false, q2.2)) else (
      (gm_144 x1 q2.2).bind fun q7 =>
      if (gb q7.1) = 0 then (
        some (false, q7.2)) else (
        (gm_152 x1 x3 q7.2).bind fun q10 =>
        if (-2147483648 ≤ q10.1 ∧ q10.1 ≤ 2147483647) then (
        if (-2147483648 ≤ x2 ∧ x2 ≤ 2147483647) then (
        if ¬ q10.1 = x2 then (
          gm_153_2 n x1 x2 (x3 + 1) q10.2) else (
          some (true, q10.2))) else none) else none))) else none) else none
theorem gf_153_2 : ∀ (n : Nat) (x1 : Int) (yx1 : Int32) (e1 : yx1 = Int32.ofInt x1) (x2 : Int) (yx2 : Int32) (e2 : yx2 = Int32.ofInt x2) (x3 : Int) (yx3 : Int32) (e3 : yx3 = Int32.ofInt x3) (s : gx_S) (σ : fx_S) (es : σ = gx s) (q : Bool × gx_S), gm_153_2 n x1 x2 x3 s = some q → fm_153_2 n yx1 yx2 yx3 σ = some (q.1, gx q.2) := by
  intro n
  induction n with
  | zero =>
    intro x1 yx1 e1 x2 yx2 e2 x3 yx3 e3 s σ es q  h
    rw [gm_153_2] at h
    exact fx_no h
  | succ n ih =>
    intro x1 yx1 e1 x2 yx2 e2 x3 yx3 e3 s σ es q  h
    rw [gm_153_2] at h
    rw [fm_153_2]
    obtain ⟨q2, w1, h⟩ := fx_bd h
    refine gb_bind (gf_151 es w1) ?_
    obtain ⟨z3, h⟩ := fx_gd h
    obtain ⟨z4, h⟩ := fx_gd h
    by_cases c5 : q2.1 ≤ x3
    · rw [if_pos c5] at h
      refine gb_t ((gc_le (gr q2.1) e3 z4 z3).mpr c5) ?_
      have h := Option.some.inj h
      subst h
      exact gretb (rfl : _ = gx q2.2)
    · rw [if_neg c5] at h
      refine gb_f (fun q => c5 ((gc_le (gr q2.1) e3 z4 z3).mp q)) ?_
      obtain ⟨q7, w6, h⟩ := fx_bd h
      refine gb_bind (gf_144 e1 (rfl : _ = gx q2.2) w6) ?_
      by_cases c8 : (gb q7.1) = 0
      · rw [if_pos c8] at h
        refine gb_t ((gc_eq (gb_b q7.1) kg_0 (gb_r _) (by decide)).mpr c8) ?_
        have h := Option.some.inj h
        subst h
        exact gretb (rfl : _ = gx q7.2)
      · rw [if_neg c8] at h
        refine gb_f (fun q => c8 ((gc_eq (gb_b q7.1) kg_0 (gb_r _) (by decide)).mp q)) ?_
        obtain ⟨q10, w9, h⟩ := fx_bd h
        refine gb_bind (gf_152 e1 e3 (rfl : _ = gx q7.2) w9) ?_
        obtain ⟨z11, h⟩ := fx_gd h
        obtain ⟨z12, h⟩ := fx_gd h
        by_cases c13 : ¬ q10.1 = x2
        · rw [if_pos c13] at h
          refine gb_t ((gc_ne (gr q10.1) e2 z11 z12).mpr c13) ?_
          exact ih _ _ e1 _ _ e2 _ _ (ga_add e3 kg_1) _ _ (rfl : _ = gx q10.2) _ h
        · rw [if_neg c13] at h
          refine gb_f (fun q => c13 ((gc_ne (gr q10.1) e2 z11 z12).mp q)) ?_
          have h := Option.some.inj h
          subst h
          exact gretb (rfl : _ = gx q10.2)
def gm_153 (x1 : Int) (x2 : Int) (s : gx_S) : Option (Bool × gx_S) :=
  gm_153_2 100000 x1 x2 0 s
theorem gf_153 {x1 : Int} {yx1 : Int32} (e1 : yx1 = Int32.ofInt x1) {x2 : Int} {yx2 : Int32} (e2 : yx2 = Int32.ofInt x2) {s : gx_S} {σ : fx_S} (es : σ = gx s) {q : Bool × gx_S} (h : gm_153 x1 x2 s = some q) : fm_153 yx1 yx2 σ = some (q.1, gx q.2) := by
  unfold gm_153 at h
  unfold fm_153
  exact gf_153_2 100000 _ _ e1 _ _ e2 _ _ kg_0 _ _ es _ h

/-! ZoneSharesModel.codeMany(II)I -/
def gm_154_5 : Nat → Int → Int → Int → Int → gx_S → Option (Int × gx_S)
  | 0, _, _, _, _, _ => none
  | n + 1, x1, x2, x3, x4, s =>
    if (-2147483648 ≤ x4 ∧ x4 ≤ 2147483647) then (
    if (-2147483648 ≤ x2 ∧ x2 ≤ 2147483647) then (
    if x2 ≤ x4 then (
      some (x3, s)) else (
      (gm_153 x1 x4 s).bind fun q5 =>
      (gm_131 (gb q5.1) q5.2).bind fun q7 =>
      gm_154_5 n x1 x2 (x3 + q7.1) (x4 + 1) q7.2)) else none) else none
theorem gf_154_5 : ∀ (n : Nat) (x1 : Int) (yx1 : Int32) (e1 : yx1 = Int32.ofInt x1) (x2 : Int) (yx2 : Int32) (e2 : yx2 = Int32.ofInt x2) (x3 : Int) (yx3 : Int32) (e3 : yx3 = Int32.ofInt x3) (x4 : Int) (yx4 : Int32) (e4 : yx4 = Int32.ofInt x4) (s : gx_S) (σ : fx_S) (es : σ = gx s) (q : Int × gx_S), gm_154_5 n x1 x2 x3 x4 s = some q → fm_154_5 n yx1 yx2 yx3 yx4 σ = some (Int32.ofInt q.1, gx q.2) := by
  intro n
  induction n with
  | zero =>
    intro x1 yx1 e1 x2 yx2 e2 x3 yx3 e3 x4 yx4 e4 s σ es q  h
    rw [gm_154_5] at h
    exact fx_no h
  | succ n ih =>
    intro x1 yx1 e1 x2 yx2 e2 x3 yx3 e3 x4 yx4 e4 s σ es q  h
    rw [gm_154_5] at h
    rw [fm_154_5]
    obtain ⟨z1, h⟩ := fx_gd h
    obtain ⟨z2, h⟩ := fx_gd h
    by_cases c3 : x2 ≤ x4
    · rw [if_pos c3] at h
      refine gb_t ((gc_le e2 e4 z2 z1).mpr c3) ?_
      have h := Option.some.inj h
      subst h
      exact gret e3 es
    · rw [if_neg c3] at h
      refine gb_f (fun q => c3 ((gc_le e2 e4 z2 z1).mp q)) ?_
      obtain ⟨q5, w4, h⟩ := fx_bd h
      refine gb_bind (gf_153 e1 e4 es w4) ?_
      obtain ⟨q7, w6, h⟩ := fx_bd h
      refine gb_bind (gf_131 (gb_b q5.1) (rfl : _ = gx q5.2) w6) ?_
      exact ih _ _ e1 _ _ e2 _ _ (ga_add e3 (gr q7.1)) _ _ (ga_add e4 kg_1) _ _ (rfl : _ = gx q7.2) _ h
def gm_154 (x1 : Int) (x2 : Int) (s : gx_S) : Option (Int × gx_S) :=
  gm_154_5 100000 x1 x2 0 0 s
theorem gf_154 {x1 : Int} {yx1 : Int32} (e1 : yx1 = Int32.ofInt x1) {x2 : Int} {yx2 : Int32} (e2 : yx2 = Int32.ofInt x2) {s : gx_S} {σ : fx_S} (es : σ = gx s) {q : Int × gx_S} (h : gm_154 x1 x2 s = some q) : fm_154 yx1 yx2 σ = some (Int32.ofInt q.1, gx q.2) := by
  unfold gm_154 at h
  unfold fm_154
  exact gf_154_5 100000 _ _ e1 _ _ e2 _ _ kg_0 _ _ kg_0 _ _ es _ h

/-! ZoneSharesModel.countOf(II)I -/
def gm_155 (x1 : Int) (x2 : Int) (s : gx_S) : Option (Int × gx_S) :=
  if 0 ≤ ((5 + (9 * x1)) + x2) ∧ ((5 + (9 * x1)) + x2) < 340 then (
  some ((s.1 216 (((5 + (9 * x1)) + x2)).toNat), s)) else none
theorem gf_155 {x1 : Int} {yx1 : Int32} (e1 : yx1 = Int32.ofInt x1) {x2 : Int} {yx2 : Int32} (e2 : yx2 = Int32.ofInt x2) {s : gx_S} {σ : fx_S} (es : σ = gx s) {q : Int × gx_S} (h : gm_155 x1 x2 s = some q) : fm_155 yx1 yx2 σ = some (Int32.ofInt q.1, gx q.2) := by
  unfold gm_155 at h
  unfold fm_155
  obtain ⟨z6, h⟩ := fx_gd h
  refine gb_bind (gl_ld es (ga_add (ga_add kg_5 (ga_mul kg_9 e1)) e2) ga_216 z6) ?_
  have h := Option.some.inj h
  subst h
  exact gret (gr (s.1 216 (((5 + (9 * x1)) + x2)).toNat)) es

/-! ZoneSharesModel.weightAt(II)I -/
def gm_156 (x1 : Int) (x2 : Int) (s : gx_S) : Option (Int × gx_S) :=
  (gm_152 2 x2 s).bind fun q7 =>
  if 0 ≤ ((32 + (4 * x1)) + q7.1) ∧ ((32 + (4 * x1)) + q7.1) < 340 then (
  some ((q7.2.1 216 (((32 + (4 * x1)) + q7.1)).toNat), q7.2)) else none
theorem gf_156 {x1 : Int} {yx1 : Int32} (e1 : yx1 = Int32.ofInt x1) {x2 : Int} {yx2 : Int32} (e2 : yx2 = Int32.ofInt x2) {s : gx_S} {σ : fx_S} (es : σ = gx s) {q : Int × gx_S} (h : gm_156 x1 x2 s = some q) : fm_156 yx1 yx2 σ = some (Int32.ofInt q.1, gx q.2) := by
  unfold gm_156 at h
  unfold fm_156
  obtain ⟨q7, w6, h⟩ := fx_bd h
  refine gb_bind (gf_152 kg_2 e2 es w6) ?_
  obtain ⟨z10, h⟩ := fx_gd h
  refine gb_bind (gl_ld (rfl : _ = gx q7.2) (ga_add (ga_add kg_32 (ga_mul kg_4 e1)) (gr q7.1)) ga_216 z10) ?_
  have h := Option.some.inj h
  subst h
  exact gret (gr (q7.2.1 216 (((32 + (4 * x1)) + q7.1)).toNat)) (rfl : _ = gx q7.2)

/-! ZoneSharesModel.sumOf(IIIZ)I -/
def gm_157_81 (k_6 : Int → Int → Int → Int → Int → Int → gx_S → Option (Int × gx_S)) (x1 : Int) (x2 : Int) (x3 : Int) (x4 : Int) (x6 : Int) (s0 : Int) (s1 : Int) (s : gx_S) : Option (Int × gx_S) :=
  k_6 x1 x2 x3 x4 (s0 + s1) (x6 + 1) s
theorem gf_157_81 {kf_6 : Int32 → Int32 → Int32 → Int32 → Int32 → Int32 → fx_S → Option (Int32 × fx_S)} {kg_6 : Int → Int → Int → Int → Int → Int → gx_S → Option (Int × gx_S)} (hk_6 : ∀ (x1 : Int) (yx1 : Int32) (e1 : yx1 = Int32.ofInt x1) (x2 : Int) (yx2 : Int32) (e2 : yx2 = Int32.ofInt x2) (x3 : Int) (yx3 : Int32) (e3 : yx3 = Int32.ofInt x3) (x4 : Int) (yx4 : Int32) (e4 : yx4 = Int32.ofInt x4) (x5 : Int) (yx5 : Int32) (e5 : yx5 = Int32.ofInt x5) (x6 : Int) (yx6 : Int32) (e6 : yx6 = Int32.ofInt x6) (s : gx_S) (σ : fx_S) (es : σ = gx s) (q : Int × gx_S), kg_6 x1 x2 x3 x4 x5 x6 s = some q → kf_6 yx1 yx2 yx3 yx4 yx5 yx6 σ = some (Int32.ofInt q.1, gx q.2)) (x1 : Int) (yx1 : Int32) (e1 : yx1 = Int32.ofInt x1) (x2 : Int) (yx2 : Int32) (e2 : yx2 = Int32.ofInt x2) (x3 : Int) (yx3 : Int32) (e3 : yx3 = Int32.ofInt x3) (x4 : Int) (yx4 : Int32) (e4 : yx4 = Int32.ofInt x4) (x6 : Int) (yx6 : Int32) (e6 : yx6 = Int32.ofInt x6) (s0 : Int) (ys0 : Int32) (es0 : ys0 = Int32.ofInt s0) (s1 : Int) (ys1 : Int32) (es1 : ys1 = Int32.ofInt s1) (s : gx_S) (σ : fx_S) (es : σ = gx s) (q : Int × gx_S) (h : gm_157_81 kg_6 x1 x2 x3 x4 x6 s0 s1 s = some q) : fm_157_81 kf_6 yx1 yx2 yx3 yx4 yx6 ys0 ys1 σ = some (Int32.ofInt q.1, gx q.2) := by
  unfold gm_157_81 at h
  unfold fm_157_81
  exact hk_6 _ _ e1 _ _ e2 _ _ e3 _ _ e4 _ _ (ga_add es0 es1) _ _ (ga_add e6 kg_1) _ _ es _ h
def gm_157_52 (k_6 : Int → Int → Int → Int → Int → Int → gx_S → Option (Int × gx_S)) (x1 : Int) (x2 : Int) (x3 : Int) (x4 : Int) (x5 : Int) (x6 : Int) (s0 : Int) (s : gx_S) : Option (Int × gx_S) :=
  if (-2147483648 ≤ s0 ∧ s0 ≤ 2147483647) then (
  if ¬ s0 = 0 then (
    if (-2147483648 ≤ x4 ∧ x4 ≤ 2147483647) then (
    if x4 = 0 then (
      (gm_156 x1 x6 s).bind fun q6 =>
      gm_157_81 k_6 x1 x2 x3 x4 x6 x5 q6.1 q6.2) else (
      gm_157_81 k_6 x1 x2 x3 x4 x6 x5 1 s)) else none) else (
    gm_157_81 k_6 x1 x2 x3 x4 x6 x5 0 s)) else none
theorem gf_157_52 {kf_6 : Int32 → Int32 → Int32 → Int32 → Int32 → Int32 → fx_S → Option (Int32 × fx_S)} {kg_6 : Int → Int → Int → Int → Int → Int → gx_S → Option (Int × gx_S)} (hk_6 : ∀ (x1 : Int) (yx1 : Int32) (e1 : yx1 = Int32.ofInt x1) (x2 : Int) (yx2 : Int32) (e2 : yx2 = Int32.ofInt x2) (x3 : Int) (yx3 : Int32) (e3 : yx3 = Int32.ofInt x3) (x4 : Int) (yx4 : Int32) (e4 : yx4 = Int32.ofInt x4) (x5 : Int) (yx5 : Int32) (e5 : yx5 = Int32.ofInt x5) (x6 : Int) (yx6 : Int32) (e6 : yx6 = Int32.ofInt x6) (s : gx_S) (σ : fx_S) (es : σ = gx s) (q : Int × gx_S), kg_6 x1 x2 x3 x4 x5 x6 s = some q → kf_6 yx1 yx2 yx3 yx4 yx5 yx6 σ = some (Int32.ofInt q.1, gx q.2)) (x1 : Int) (yx1 : Int32) (e1 : yx1 = Int32.ofInt x1) (x2 : Int) (yx2 : Int32) (e2 : yx2 = Int32.ofInt x2) (x3 : Int) (yx3 : Int32) (e3 : yx3 = Int32.ofInt x3) (x4 : Int) (yx4 : Int32) (e4 : yx4 = Int32.ofInt x4) (x5 : Int) (yx5 : Int32) (e5 : yx5 = Int32.ofInt x5) (x6 : Int) (yx6 : Int32) (e6 : yx6 = Int32.ofInt x6) (s0 : Int) (ys0 : Int32) (es0 : ys0 = Int32.ofInt s0) (s : gx_S) (σ : fx_S) (es : σ = gx s) (q : Int × gx_S) (h : gm_157_52 kg_6 x1 x2 x3 x4 x5 x6 s0 s = some q) : fm_157_52 kf_6 yx1 yx2 yx3 yx4 yx5 yx6 ys0 σ = some (Int32.ofInt q.1, gx q.2) := by
  unfold gm_157_52 at h
  unfold fm_157_52
  obtain ⟨z1, h⟩ := fx_gd h
  by_cases c2 : ¬ s0 = 0
  · rw [if_pos c2] at h
    refine gb_t ((gc_ne es0 kg_0 z1 (by decide)).mpr c2) ?_
    obtain ⟨z3, h⟩ := fx_gd h
    by_cases c4 : x4 = 0
    · rw [if_pos c4] at h
      refine gb_t ((gc_eq e4 kg_0 z3 (by decide)).mpr c4) ?_
      obtain ⟨q6, w5, h⟩ := fx_bd h
      refine gb_bind (gf_156 e1 e6 es w5) ?_
      exact gf_157_81 hk_6 _ _ e1 _ _ e2 _ _ e3 _ _ e4 _ _ e6 _ _ e5 _ _ (gr q6.1) _ _ (rfl : _ = gx q6.2) _ h
    · rw [if_neg c4] at h
      refine gb_f (fun q => c4 ((gc_eq e4 kg_0 z3 (by decide)).mp q)) ?_
      exact gf_157_81 hk_6 _ _ e1 _ _ e2 _ _ e3 _ _ e4 _ _ e6 _ _ e5 _ _ kg_1 _ _ es _ h
  · rw [if_neg c2] at h
    refine gb_f (fun q => c2 ((gc_ne es0 kg_0 z1 (by decide)).mp q)) ?_
    exact gf_157_81 hk_6 _ _ e1 _ _ e2 _ _ e3 _ _ e4 _ _ e6 _ _ e5 _ _ kg_0 _ _ es _ h
def gm_157_31 (k_6 : Int → Int → Int → Int → Int → Int → gx_S → Option (Int × gx_S)) (x1 : Int) (x2 : Int) (x3 : Int) (x4 : Int) (x5 : Int) (x6 : Int) (s : gx_S) : Option (Int × gx_S) :=
  if (-2147483648 ≤ x3 ∧ x3 ≤ 2147483647) then (
  if x3 = (-1) then (
    gm_157_52 k_6 x1 x2 x3 x4 x5 x6 1 s) else (
    (gm_152 1 x6 s).bind fun q4 =>
    if (-2147483648 ≤ q4.1 ∧ q4.1 ≤ 2147483647) then (
    if ¬ q4.1 = x3 then (
      gm_157_52 k_6 x1 x2 x3 x4 x5 x6 0 q4.2) else (
      gm_157_52 k_6 x1 x2 x3 x4 x5 x6 1 q4.2)) else none)) else none
theorem gf_157_31 {kf_6 : Int32 → Int32 → Int32 → Int32 → Int32 → Int32 → fx_S → Option (Int32 × fx_S)} {kg_6 : Int → Int → Int → Int → Int → Int → gx_S → Option (Int × gx_S)} (hk_6 : ∀ (x1 : Int) (yx1 : Int32) (e1 : yx1 = Int32.ofInt x1) (x2 : Int) (yx2 : Int32) (e2 : yx2 = Int32.ofInt x2) (x3 : Int) (yx3 : Int32) (e3 : yx3 = Int32.ofInt x3) (x4 : Int) (yx4 : Int32) (e4 : yx4 = Int32.ofInt x4) (x5 : Int) (yx5 : Int32) (e5 : yx5 = Int32.ofInt x5) (x6 : Int) (yx6 : Int32) (e6 : yx6 = Int32.ofInt x6) (s : gx_S) (σ : fx_S) (es : σ = gx s) (q : Int × gx_S), kg_6 x1 x2 x3 x4 x5 x6 s = some q → kf_6 yx1 yx2 yx3 yx4 yx5 yx6 σ = some (Int32.ofInt q.1, gx q.2)) (x1 : Int) (yx1 : Int32) (e1 : yx1 = Int32.ofInt x1) (x2 : Int) (yx2 : Int32) (e2 : yx2 = Int32.ofInt x2) (x3 : Int) (yx3 : Int32) (e3 : yx3 = Int32.ofInt x3) (x4 : Int) (yx4 : Int32) (e4 : yx4 = Int32.ofInt x4) (x5 : Int) (yx5 : Int32) (e5 : yx5 = Int32.ofInt x5) (x6 : Int) (yx6 : Int32) (e6 : yx6 = Int32.ofInt x6) (s : gx_S) (σ : fx_S) (es : σ = gx s) (q : Int × gx_S) (h : gm_157_31 kg_6 x1 x2 x3 x4 x5 x6 s = some q) : fm_157_31 kf_6 yx1 yx2 yx3 yx4 yx5 yx6 σ = some (Int32.ofInt q.1, gx q.2) := by
  unfold gm_157_31 at h
  unfold fm_157_31
  obtain ⟨z1, h⟩ := fx_gd h
  by_cases c2 : x3 = (-1)
  · rw [if_pos c2] at h
    refine gb_t ((gc_eq e3 kg_m1 z1 (by decide)).mpr c2) ?_
    exact gf_157_52 hk_6 _ _ e1 _ _ e2 _ _ e3 _ _ e4 _ _ e5 _ _ e6 _ _ kg_1 _ _ es _ h
  · rw [if_neg c2] at h
    refine gb_f (fun q => c2 ((gc_eq e3 kg_m1 z1 (by decide)).mp q)) ?_
    obtain ⟨q4, w3, h⟩ := fx_bd h
    refine gb_bind (gf_152 kg_1 e6 es w3) ?_
    obtain ⟨z5, h⟩ := fx_gd h
    by_cases c6 : ¬ q4.1 = x3
    · rw [if_pos c6] at h
      refine gb_t ((gc_ne (gr q4.1) e3 z5 z1).mpr c6) ?_
      exact gf_157_52 hk_6 _ _ e1 _ _ e2 _ _ e3 _ _ e4 _ _ e5 _ _ e6 _ _ kg_0 _ _ (rfl : _ = gx q4.2) _ h
    · rw [if_neg c6] at h
      refine gb_f (fun q => c6 ((gc_ne (gr q4.1) e3 z5 z1).mp q)) ?_
      exact gf_157_52 hk_6 _ _ e1 _ _ e2 _ _ e3 _ _ e4 _ _ e5 _ _ e6 _ _ kg_1 _ _ (rfl : _ = gx q4.2) _ h
def gm_157_6 : Nat → Int → Int → Int → Int → Int → Int → gx_S → Option (Int × gx_S)
  | 0, _, _, _, _, _, _, _ => none
  | n + 1, x1, x2, x3, x4, x5, x6, s =>
    (gm_151 s).bind fun q2 =>
    if (-2147483648 ≤ x6 ∧ x6 ≤ 2147483647) then (
    if (-2147483648 ≤ q2.1 ∧ q2.1 ≤ 2147483647) then (
    if q2.1 ≤ x6 then (
      some (x5, q2.2)) else (
      if (-2147483648 ≤ x2 ∧ x2 ≤ 2147483647) then (
      if x2 = (-1) then (
        gm_157_31 (gm_157_6 n) x1 x2 x3 x4 x5 x6 q2.2) else (
        (gm_152 0 x6 q2.2).bind fun q9 =>
        if (-2147483648 ≤ q9.1 ∧ q9.1 ≤ 2147483647) then (
        if ¬ q9.1 = x2 then (
          gm_157_52 (gm_157_6 n) x1 x2 x3 x4 x5 x6 0 q9.2) else (
          gm_157_31 (gm_157_6 n) x1 x2 x3 x4 x5 x6 q9.2)) else none)) else none)) else none) else none
theorem gf_157_6 : ∀ (n : Nat) (x1 : Int) (yx1 : Int32) (e1 : yx1 = Int32.ofInt x1) (x2 : Int) (yx2 : Int32) (e2 : yx2 = Int32.ofInt x2) (x3 : Int) (yx3 : Int32) (e3 : yx3 = Int32.ofInt x3) (x4 : Int) (yx4 : Int32) (e4 : yx4 = Int32.ofInt x4) (x5 : Int) (yx5 : Int32) (e5 : yx5 = Int32.ofInt x5) (x6 : Int) (yx6 : Int32) (e6 : yx6 = Int32.ofInt x6) (s : gx_S) (σ : fx_S) (es : σ = gx s) (q : Int × gx_S), gm_157_6 n x1 x2 x3 x4 x5 x6 s = some q → fm_157_6 n yx1 yx2 yx3 yx4 yx5 yx6 σ = some (Int32.ofInt q.1, gx q.2) := by
  intro n
  induction n with
  | zero =>
    intro x1 yx1 e1 x2 yx2 e2 x3 yx3 e3 x4 yx4 e4 x5 yx5 e5 x6 yx6 e6 s σ es q  h
    rw [gm_157_6] at h
    exact fx_no h
  | succ n ih =>
    intro x1 yx1 e1 x2 yx2 e2 x3 yx3 e3 x4 yx4 e4 x5 yx5 e5 x6 yx6 e6 s σ es q  h
    rw [gm_157_6] at h
    rw [fm_157_6]
    obtain ⟨q2, w1, h⟩ := fx_bd h
    refine gb_bind (gf_151 es w1) ?_
    obtain ⟨z3, h⟩ := fx_gd h
    obtain ⟨z4, h⟩ := fx_gd h
    by_cases c5 : q2.1 ≤ x6
    · rw [if_pos c5] at h
      refine gb_t ((gc_le (gr q2.1) e6 z4 z3).mpr c5) ?_
      have h := Option.some.inj h
      subst h
      exact gret e5 (rfl : _ = gx q2.2)
    · rw [if_neg c5] at h
      refine gb_f (fun q => c5 ((gc_le (gr q2.1) e6 z4 z3).mp q)) ?_
      obtain ⟨z6, h⟩ := fx_gd h
      by_cases c7 : x2 = (-1)
      · rw [if_pos c7] at h
        refine gb_t ((gc_eq e2 kg_m1 z6 (by decide)).mpr c7) ?_
        exact gf_157_31 ih _ _ e1 _ _ e2 _ _ e3 _ _ e4 _ _ e5 _ _ e6 _ _ (rfl : _ = gx q2.2) _ h
      · rw [if_neg c7] at h
        refine gb_f (fun q => c7 ((gc_eq e2 kg_m1 z6 (by decide)).mp q)) ?_
        obtain ⟨q9, w8, h⟩ := fx_bd h
        refine gb_bind (gf_152 kg_0 e6 (rfl : _ = gx q2.2) w8) ?_
        obtain ⟨z10, h⟩ := fx_gd h
        by_cases c11 : ¬ q9.1 = x2
        · rw [if_pos c11] at h
          refine gb_t ((gc_ne (gr q9.1) e2 z10 z6).mpr c11) ?_
          exact gf_157_52 ih _ _ e1 _ _ e2 _ _ e3 _ _ e4 _ _ e5 _ _ e6 _ _ kg_0 _ _ (rfl : _ = gx q9.2) _ h
        · rw [if_neg c11] at h
          refine gb_f (fun q => c11 ((gc_ne (gr q9.1) e2 z10 z6).mp q)) ?_
          exact gf_157_31 ih _ _ e1 _ _ e2 _ _ e3 _ _ e4 _ _ e5 _ _ e6 _ _ (rfl : _ = gx q9.2) _ h
def gm_157 (x1 : Int) (x2 : Int) (x3 : Int) (x4 : Int) (s : gx_S) : Option (Int × gx_S) :=
  gm_157_6 100000 x1 x2 x3 x4 0 0 s
theorem gf_157 {x1 : Int} {yx1 : Int32} (e1 : yx1 = Int32.ofInt x1) {x2 : Int} {yx2 : Int32} (e2 : yx2 = Int32.ofInt x2) {x3 : Int} {yx3 : Int32} (e3 : yx3 = Int32.ofInt x3) {x4 : Int} {yx4 : Int32} (e4 : yx4 = Int32.ofInt x4) {s : gx_S} {σ : fx_S} (es : σ = gx s) {q : Int × gx_S} (h : gm_157 x1 x2 x3 x4 s = some q) : fm_157 yx1 yx2 yx3 yx4 σ = some (Int32.ofInt q.1, gx q.2) := by
  unfold gm_157 at h
  unfold fm_157
  exact gf_157_6 100000 _ _ e1 _ _ e2 _ _ e3 _ _ e4 _ _ kg_0 _ _ kg_0 _ _ es _ h

/-! ZoneSharesModel.oldCells(I)I -/
def gm_158_28 (k_4 : Int → Int → Int → gx_S → Option (Int × gx_S)) (x1 : Int) (x3 : Int) (s0 : Int) (s1 : Int) (s : gx_S) : Option (Int × gx_S) :=
  (gm_131 s1 s).bind fun q2 =>
  k_4 x1 (s0 + q2.1) (x3 + 1) q2.2
theorem gf_158_28 {kf_4 : Int32 → Int32 → Int32 → fx_S → Option (Int32 × fx_S)} {kg_4 : Int → Int → Int → gx_S → Option (Int × gx_S)} (hk_4 : ∀ (x1 : Int) (yx1 : Int32) (e1 : yx1 = Int32.ofInt x1) (x2 : Int) (yx2 : Int32) (e2 : yx2 = Int32.ofInt x2) (x3 : Int) (yx3 : Int32) (e3 : yx3 = Int32.ofInt x3) (s : gx_S) (σ : fx_S) (es : σ = gx s) (q : Int × gx_S), kg_4 x1 x2 x3 s = some q → kf_4 yx1 yx2 yx3 σ = some (Int32.ofInt q.1, gx q.2)) (x1 : Int) (yx1 : Int32) (e1 : yx1 = Int32.ofInt x1) (x3 : Int) (yx3 : Int32) (e3 : yx3 = Int32.ofInt x3) (s0 : Int) (ys0 : Int32) (es0 : ys0 = Int32.ofInt s0) (s1 : Int) (ys1 : Int32) (es1 : ys1 = Int32.ofInt s1) (s : gx_S) (σ : fx_S) (es : σ = gx s) (q : Int × gx_S) (h : gm_158_28 kg_4 x1 x3 s0 s1 s = some q) : fm_158_28 kf_4 yx1 yx3 ys0 ys1 σ = some (Int32.ofInt q.1, gx q.2) := by
  unfold gm_158_28 at h
  unfold fm_158_28
  obtain ⟨q2, w1, h⟩ := fx_bd h
  refine gb_bind (gf_131 es1 es w1) ?_
  exact hk_4 _ _ e1 _ _ (ga_add es0 (gr q2.1)) _ _ (ga_add e3 kg_1) _ _ (rfl : _ = gx q2.2) _ h
def gm_158_4 : Nat → Int → Int → Int → gx_S → Option (Int × gx_S)
  | 0, _, _, _, _ => none
  | n + 1, x1, x2, x3, s =>
    (gm_151 s).bind fun q2 =>
    if (-2147483648 ≤ x3 ∧ x3 ≤ 2147483647) then (
    if (-2147483648 ≤ q2.1 ∧ q2.1 ≤ 2147483647) then (
    if q2.1 ≤ x3 then (
      some (x2, q2.2)) else (
      (gm_152 0 x3 q2.2).bind fun q7 =>
      if (-2147483648 ≤ q7.1 ∧ q7.1 ≤ 2147483647) then (
      if (-2147483648 ≤ x1 ∧ x1 ≤ 2147483647) then (
      if ¬ q7.1 = x1 then (
        gm_158_28 (gm_158_4 n) x1 x3 x2 0 q7.2) else (
        gm_158_28 (gm_158_4 n) x1 x3 x2 1 q7.2)) else none) else none)) else none) else none
theorem gf_158_4 : ∀ (n : Nat) (x1 : Int) (yx1 : Int32) (e1 : yx1 = Int32.ofInt x1) (x2 : Int) (yx2 : Int32) (e2 : yx2 = Int32.ofInt x2) (x3 : Int) (yx3 : Int32) (e3 : yx3 = Int32.ofInt x3) (s : gx_S) (σ : fx_S) (es : σ = gx s) (q : Int × gx_S), gm_158_4 n x1 x2 x3 s = some q → fm_158_4 n yx1 yx2 yx3 σ = some (Int32.ofInt q.1, gx q.2) := by
  intro n
  induction n with
  | zero =>
    intro x1 yx1 e1 x2 yx2 e2 x3 yx3 e3 s σ es q  h
    rw [gm_158_4] at h
    exact fx_no h
  | succ n ih =>
    intro x1 yx1 e1 x2 yx2 e2 x3 yx3 e3 s σ es q  h
    rw [gm_158_4] at h
    rw [fm_158_4]
    obtain ⟨q2, w1, h⟩ := fx_bd h
    refine gb_bind (gf_151 es w1) ?_
    obtain ⟨z3, h⟩ := fx_gd h
    obtain ⟨z4, h⟩ := fx_gd h
    by_cases c5 : q2.1 ≤ x3
    · rw [if_pos c5] at h
      refine gb_t ((gc_le (gr q2.1) e3 z4 z3).mpr c5) ?_
      have h := Option.some.inj h
      subst h
      exact gret e2 (rfl : _ = gx q2.2)
    · rw [if_neg c5] at h
      refine gb_f (fun q => c5 ((gc_le (gr q2.1) e3 z4 z3).mp q)) ?_
      obtain ⟨q7, w6, h⟩ := fx_bd h
      refine gb_bind (gf_152 kg_0 e3 (rfl : _ = gx q2.2) w6) ?_
      obtain ⟨z8, h⟩ := fx_gd h
      obtain ⟨z9, h⟩ := fx_gd h
      by_cases c10 : ¬ q7.1 = x1
      · rw [if_pos c10] at h
        refine gb_t ((gc_ne (gr q7.1) e1 z8 z9).mpr c10) ?_
        exact gf_158_28 ih _ _ e1 _ _ e3 _ _ e2 _ _ kg_0 _ _ (rfl : _ = gx q7.2) _ h
      · rw [if_neg c10] at h
        refine gb_f (fun q => c10 ((gc_ne (gr q7.1) e1 z8 z9).mp q)) ?_
        exact gf_158_28 ih _ _ e1 _ _ e3 _ _ e2 _ _ kg_1 _ _ (rfl : _ = gx q7.2) _ h
def gm_158 (x1 : Int) (s : gx_S) : Option (Int × gx_S) :=
  gm_158_4 100000 x1 0 0 s
theorem gf_158 {x1 : Int} {yx1 : Int32} (e1 : yx1 = Int32.ofInt x1) {s : gx_S} {σ : fx_S} (es : σ = gx s) {q : Int × gx_S} (h : gm_158 x1 s = some q) : fm_158 yx1 σ = some (Int32.ofInt q.1, gx q.2) := by
  unfold gm_158 at h
  unfold fm_158
  exact gf_158_4 100000 _ _ e1 _ _ kg_0 _ _ kg_0 _ _ es _ h

/-! ZoneSharesModel.begins(II)V -/
def gm_159_12 : Nat → Int → gx_S → Option (gx_S)
  | 0, _, _ => none
  | n + 1, x3, s =>
    if (-2147483648 ≤ x3 ∧ x3 ≤ 2147483647) then (
    if 72 ≤ x3 then (
      some s) else (
      if 0 ≤ x3 ∧ x3 < 72 then (
      gm_159_12 n (x3 + 1) (gw2 (gw2 (gw1 s 222 (x3).toNat 0) 224 (x3).toNat 0) 225 (x3).toNat 0)) else none)) else none
theorem gf_159_12 : ∀ (n : Nat) (x3 : Int) (yx3 : Int32) (e3 : yx3 = Int32.ofInt x3) (s : gx_S) (σ : fx_S) (es : σ = gx s) (q : gx_S), gm_159_12 n x3 s = some q → fm_159_12 n yx3 σ = some (gx q) := by
  intro n
  induction n with
  | zero =>
    intro x3 yx3 e3 s σ es q  h
    rw [gm_159_12] at h
    exact fx_no h
  | succ n ih =>
    intro x3 yx3 e3 s σ es q  h
    rw [gm_159_12] at h
    rw [fm_159_12]
    obtain ⟨z1, h⟩ := fx_gd h
    by_cases c2 : 72 ≤ x3
    · rw [if_pos c2] at h
      refine gb_t ((gc_le kg_72 e3 (by decide) z1).mpr c2) ?_
      have h := Option.some.inj h
      subst h
      exact gretv es
    · rw [if_neg c2] at h
      refine gb_f (fun q => c2 ((gc_le kg_72 e3 (by decide) z1).mp q)) ?_
      obtain ⟨z5, h⟩ := fx_gd h
      refine gb_bind (gl_st es e3 kg_0 ga_222 z5) ?_
      refine gb_bind (gl_stl (rfl : _ = gx (gw1 s 222 (x3).toNat 0)) e3 kgl_0 ga_224 z5) ?_
      refine gb_bind (gl_stl (rfl : _ = gx (gw2 (gw1 s 222 (x3).toNat 0) 224 (x3).toNat 0)) e3 kgl_0 ga_225 z5) ?_
      exact ih _ _ (ga_add e3 kg_1) _ _ (rfl : _ = gx (gw2 (gw2 (gw1 s 222 (x3).toNat 0) 224 (x3).toNat 0) 225 (x3).toNat 0)) _ h
def gm_159 (x1 : Int) (x2 : Int) (s : gx_S) : Option (gx_S) :=
  gm_159_12 100000 0 (gw1 (gw1 s 215 17 x1) 215 18 x2)
theorem gf_159 {x1 : Int} {yx1 : Int32} (e1 : yx1 = Int32.ofInt x1) {x2 : Int} {yx2 : Int32} (e2 : yx2 = Int32.ofInt x2) {s : gx_S} {σ : fx_S} (es : σ = gx s) {q : gx_S} (h : gm_159 x1 x2 s = some q) : fm_159 yx1 yx2 σ = some (gx q) := by
  unfold gm_159 at h
  unfold fm_159
  exact gf_159_12 100000 _ _ kg_0 _ _ (gx_w1 (gx_w1 es e1) e2) _ h

/-! ZoneSharesModel.at(II)I -/
def gm_160 (x0 : Int) (x1 : Int) (s : gx_S) : Option (Int × gx_S) :=
  some (((9 * x0) + x1), s)
theorem gf_160 {x0 : Int} {yx0 : Int32} (e0 : yx0 = Int32.ofInt x0) {x1 : Int} {yx1 : Int32} (e1 : yx1 = Int32.ofInt x1) {s : gx_S} {σ : fx_S} (es : σ = gx s) {q : Int × gx_S} (h : gm_160 x0 x1 s = some q) : fm_160 yx0 yx1 σ = some (Int32.ofInt q.1, gx q.2) := by
  unfold gm_160 at h
  unfold fm_160
  have h := Option.some.inj h
  subst h
  exact gret (ga_add (ga_mul kg_9 e0) e1) es

/-! ZoneSharesModel.wholeOf(I)I -/
def gm_161_4 : Nat → Int → Int → Int → gx_S → Option (Int × gx_S)
  | 0, _, _, _, _ => none
  | n + 1, x1, x2, x3, s =>
    if (-2147483648 ≤ x3 ∧ x3 ≤ 2147483647) then (
    if (-2147483648 ≤ (s.1 215 18) ∧ (s.1 215 18) ≤ 2147483647) then (
    if (s.1 215 18) ≤ x3 then (
      if 0 ≤ x1 ∧ x1 < 8 then (
      some (x2, (gw1 s 223 (x1).toNat x2))) else none) else (
      (gm_160 x1 x3 s).bind fun q8 =>
      if 0 ≤ q8.1 ∧ q8.1 < 72 then (
      gm_161_4 n x1 (x2 + (q8.2.1 222 (q8.1).toNat)) (x3 + 1) q8.2) else none)) else none) else none
theorem gf_161_4 : ∀ (n : Nat) (x1 : Int) (yx1 : Int32) (e1 : yx1 = Int32.ofInt x1) (x2 : Int) (yx2 : Int32) (e2 : yx2 = Int32.ofInt x2) (x3 : Int) (yx3 : Int32) (e3 : yx3 = Int32.ofInt x3) (s : gx_S) (σ : fx_S) (es : σ = gx s) (q : Int × gx_S), gm_161_4 n x1 x2 x3 s = some q → fm_161_4 n yx1 yx2 yx3 σ = some (Int32.ofInt q.1, gx q.2) := by
  intro n
  induction n with
  | zero =>
    intro x1 yx1 e1 x2 yx2 e2 x3 yx3 e3 s σ es q  h
    rw [gm_161_4] at h
    exact fx_no h
  | succ n ih =>
    intro x1 yx1 e1 x2 yx2 e2 x3 yx3 e3 s σ es q  h
    rw [gm_161_4] at h
    rw [fm_161_4]
    obtain ⟨z1, h⟩ := fx_gd h
    obtain ⟨z2, h⟩ := fx_gd h
    by_cases c3 : (s.1 215 18) ≤ x3
    · rw [if_pos c3] at h
      refine gb_t ((gc_le (gf1 es 215 18) e3 z2 z1).mpr c3) ?_
      obtain ⟨z6, h⟩ := fx_gd h
      refine gb_bind (gl_st es e1 e2 ga_223 z6) ?_
      have h := Option.some.inj h
      subst h
      exact gret e2 (rfl : _ = gx (gw1 s 223 (x1).toNat x2))
    · rw [if_neg c3] at h
      refine gb_f (fun q => c3 ((gc_le (gf1 es 215 18) e3 z2 z1).mp q)) ?_
      obtain ⟨q8, w7, h⟩ := fx_bd h
      refine gb_bind (gf_160 e1 e3 es w7) ?_
      obtain ⟨z11, h⟩ := fx_gd h
      refine gb_bind (gl_ld (rfl : _ = gx q8.2) (gr q8.1) ga_222 z11) ?_
      exact ih _ _ e1 _ _ (ga_add e2 (gr (q8.2.1 222 (q8.1).toNat))) _ _ (ga_add e3 kg_1) _ _ (rfl : _ = gx q8.2) _ h
def gm_161 (x1 : Int) (s : gx_S) : Option (Int × gx_S) :=
  gm_161_4 100000 x1 0 0 s
theorem gf_161 {x1 : Int} {yx1 : Int32} (e1 : yx1 = Int32.ofInt x1) {s : gx_S} {σ : fx_S} (es : σ = gx s) {q : Int × gx_S} (h : gm_161 x1 s = some q) : fm_161 yx1 σ = some (Int32.ofInt q.1, gx q.2) := by
  unfold gm_161 at h
  unfold fm_161
  exact gf_161_4 100000 _ _ e1 _ _ kg_0 _ _ kg_0 _ _ es _ h

/-! ZoneSharesModel.cutsOff(I)J -/
def gm_162_107 (k_10 : Int → Int → Int → gx_S → Option (Int × gx_S)) (x1 : Int) (x2 : Int) (x4 : Int) (s1 : Int) (s2 : Int) (s : gx_S) : Option (Int × gx_S) :=
  if 0 ≤ s1 ∧ s1 < 72 then (
  (gm_160 x1 x4 (gw2 s 225 (s1).toNat s2)).bind fun q5 =>
  if 0 ≤ q5.1 ∧ q5.1 < 72 then (
  k_10 x1 (x2 - (q5.2.2 224 (q5.1).toNat)) (x4 + 1) q5.2) else none) else none
theorem gf_162_107 {kf_10 : Int32 → Int64 → Int32 → fx_S → Option (Int64 × fx_S)} {kg_10 : Int → Int → Int → gx_S → Option (Int × gx_S)} (hk_10 : ∀ (x1 : Int) (yx1 : Int32) (e1 : yx1 = Int32.ofInt x1) (x2 : Int) (yx2 : Int64) (e2 : yx2 = Int64.ofInt x2) (x4 : Int) (yx4 : Int32) (e4 : yx4 = Int32.ofInt x4) (s : gx_S) (σ : fx_S) (es : σ = gx s) (q : Int × gx_S), kg_10 x1 x2 x4 s = some q → kf_10 yx1 yx2 yx4 σ = some (Int64.ofInt q.1, gx q.2)) (x1 : Int) (yx1 : Int32) (e1 : yx1 = Int32.ofInt x1) (x2 : Int) (yx2 : Int64) (e2 : yx2 = Int64.ofInt x2) (x4 : Int) (yx4 : Int32) (e4 : yx4 = Int32.ofInt x4) (s1 : Int) (ys1 : Int32) (es1 : ys1 = Int32.ofInt s1) (s2 : Int) (ys2 : Int64) (es2 : ys2 = Int64.ofInt s2) (s : gx_S) (σ : fx_S) (es : σ = gx s) (q : Int × gx_S) (h : gm_162_107 kg_10 x1 x2 x4 s1 s2 s = some q) : fm_162_107 kf_10 yx1 yx2 yx4 ys1 ys2 σ = some (Int64.ofInt q.1, gx q.2) := by
  unfold gm_162_107 at h
  unfold fm_162_107
  obtain ⟨z3, h⟩ := fx_gd h
  refine gb_bind (gl_stl es es1 es2 ga_225 z3) ?_
  obtain ⟨q5, w4, h⟩ := fx_bd h
  refine gb_bind (gf_160 e1 e4 (rfl : _ = gx (gw2 s 225 (s1).toNat s2)) w4) ?_
  obtain ⟨z8, h⟩ := fx_gd h
  refine gb_bind (gl_ldl (rfl : _ = gx q5.2) (gr q5.1) ga_224 z8) ?_
  exact hk_10 _ _ e1 _ _ (gal_sub e2 (gr2 (q5.2.2 224 (q5.1).toNat))) _ _ (ga_add e4 kg_1) _ _ (rfl : _ = gx q5.2) _ h
def gm_162_73 (k_10 : Int → Int → Int → gx_S → Option (Int × gx_S)) (x1 : Int) (x2 : Int) (x4 : Int) (x5 : Int) (s1 : Int) (s2 : Int) (s : gx_S) : Option (Int × gx_S) :=
  if 0 ≤ s1 ∧ s1 < 72 then (
  (gm_160 x1 x4 (gw2 s 224 (s1).toNat s2)).bind fun q5 =>
  if 0 ≤ x1 ∧ x1 < 8 then (
  if (-2147483648 ≤ (q5.2.1 223 (x1).toNat) ∧ (q5.2.1 223 (x1).toNat) ≤ 2147483647) then (
  if ¬ (q5.2.1 223 (x1).toNat) = 0 then (
    if 0 ≤ x5 ∧ x5 ≤ 9223372036854775807 ∧ 0 < (q5.2.1 223 (x1).toNat) ∧ (q5.2.1 223 (x1).toNat) ≤ 9223372036854775807 then (
    gm_162_107 k_10 x1 x2 x4 q5.1 (x5 % (q5.2.1 223 (x1).toNat)) q5.2) else none) else (
    gm_162_107 k_10 x1 x2 x4 q5.1 0 q5.2)) else none) else none) else none
theorem gf_162_73 {kf_10 : Int32 → Int64 → Int32 → fx_S → Option (Int64 × fx_S)} {kg_10 : Int → Int → Int → gx_S → Option (Int × gx_S)} (hk_10 : ∀ (x1 : Int) (yx1 : Int32) (e1 : yx1 = Int32.ofInt x1) (x2 : Int) (yx2 : Int64) (e2 : yx2 = Int64.ofInt x2) (x4 : Int) (yx4 : Int32) (e4 : yx4 = Int32.ofInt x4) (s : gx_S) (σ : fx_S) (es : σ = gx s) (q : Int × gx_S), kg_10 x1 x2 x4 s = some q → kf_10 yx1 yx2 yx4 σ = some (Int64.ofInt q.1, gx q.2)) (x1 : Int) (yx1 : Int32) (e1 : yx1 = Int32.ofInt x1) (x2 : Int) (yx2 : Int64) (e2 : yx2 = Int64.ofInt x2) (x4 : Int) (yx4 : Int32) (e4 : yx4 = Int32.ofInt x4) (x5 : Int) (yx5 : Int64) (e5 : yx5 = Int64.ofInt x5) (s1 : Int) (ys1 : Int32) (es1 : ys1 = Int32.ofInt s1) (s2 : Int) (ys2 : Int64) (es2 : ys2 = Int64.ofInt s2) (s : gx_S) (σ : fx_S) (es : σ = gx s) (q : Int × gx_S) (h : gm_162_73 kg_10 x1 x2 x4 x5 s1 s2 s = some q) : fm_162_73 kf_10 yx1 yx2 yx4 yx5 ys1 ys2 σ = some (Int64.ofInt q.1, gx q.2) := by
  unfold gm_162_73 at h
  unfold fm_162_73
  obtain ⟨z3, h⟩ := fx_gd h
  refine gb_bind (gl_stl es es1 es2 ga_224 z3) ?_
  obtain ⟨q5, w4, h⟩ := fx_bd h
  refine gb_bind (gf_160 e1 e4 (rfl : _ = gx (gw2 s 224 (s1).toNat s2)) w4) ?_
  obtain ⟨z8, h⟩ := fx_gd h
  refine gb_bind (gl_ld (rfl : _ = gx q5.2) e1 ga_223 z8) ?_
  obtain ⟨z9, h⟩ := fx_gd h
  by_cases c10 : ¬ (q5.2.1 223 (x1).toNat) = 0
  · rw [if_pos c10] at h
    refine gb_t ((gc_ne (gr (q5.2.1 223 (x1).toNat)) kg_0 z9 (by decide)).mpr c10) ?_
    refine gb_bind (gl_ld (rfl : _ = gx q5.2) e1 ga_223 z8) ?_
    obtain ⟨z13, h⟩ := fx_gd h
    refine gb_t (gcl_nz (ga_i2l (gr (q5.2.1 223 (x1).toNat)) z9) z13) ?_
    exact gf_162_107 hk_10 _ _ e1 _ _ e2 _ _ e4 _ _ (gr q5.1) _ _ (gal_rem e5 (ga_i2l (gr (q5.2.1 223 (x1).toNat)) z9) z13) _ _ (rfl : _ = gx q5.2) _ h
  · rw [if_neg c10] at h
    refine gb_f (fun q => c10 ((gc_ne (gr (q5.2.1 223 (x1).toNat)) kg_0 z9 (by decide)).mp q)) ?_
    exact gf_162_107 hk_10 _ _ e1 _ _ e2 _ _ e4 _ _ (gr q5.1) _ _ kgl_0 _ _ (rfl : _ = gx q5.2) _ h
def gm_162_10 : Nat → Int → Int → Int → gx_S → Option (Int × gx_S)
  | 0, _, _, _, _ => none
  | n + 1, x1, x2, x4, s =>
    if (-2147483648 ≤ x4 ∧ x4 ≤ 2147483647) then (
    if (-2147483648 ≤ (s.1 215 18) ∧ (s.1 215 18) ≤ 2147483647) then (
    if (s.1 215 18) ≤ x4 then (
      if 0 ≤ x1 ∧ x1 < 8 then (
      if (-2147483648 ≤ (s.1 223 (x1).toNat) ∧ (s.1 223 (x1).toNat) ≤ 2147483647) then (
      if ¬ (s.1 223 (x1).toNat) = 0 then (
        some (x2, s)) else (
        some (0, s))) else none) else none) else (
      if 0 ≤ x1 ∧ x1 < 8 then (
      (gm_160 x1 x4 s).bind fun q13 =>
      if 0 ≤ q13.1 ∧ q13.1 < 72 then (
      if (-2147483648 ≤ (q13.2.1 222 (q13.1).toNat) ∧ (q13.2.1 222 (q13.1).toNat) ≤ 2147483647) then (
      (gm_160 x1 x4 q13.2).bind fun q19 =>
      if (-2147483648 ≤ (q19.2.1 223 (x1).toNat) ∧ (q19.2.1 223 (x1).toNat) ≤ 2147483647) then (
      if ¬ (q19.2.1 223 (x1).toNat) = 0 then (
        if 0 ≤ ((s.2 221 (x1).toNat) * (q13.2.1 222 (q13.1).toNat)) ∧ ((s.2 221 (x1).toNat) * (q13.2.1 222 (q13.1).toNat)) ≤ 9223372036854775807 ∧ 0 < (q19.2.1 223 (x1).toNat) ∧ (q19.2.1 223 (x1).toNat) ≤ 9223372036854775807 then (
        gm_162_73 (gm_162_10 n) x1 x2 x4 ((s.2 221 (x1).toNat) * (q13.2.1 222 (q13.1).toNat)) q19.1 (((s.2 221 (x1).toNat) * (q13.2.1 222 (q13.1).toNat)) / (q19.2.1 223 (x1).toNat)) q19.2) else none) else (
        gm_162_73 (gm_162_10 n) x1 x2 x4 ((s.2 221 (x1).toNat) * (q13.2.1 222 (q13.1).toNat)) q19.1 0 q19.2)) else none) else none) else none) else none)) else none) else none
theorem gf_162_10 : ∀ (n : Nat) (x1 : Int) (yx1 : Int32) (e1 : yx1 = Int32.ofInt x1) (x2 : Int) (yx2 : Int64) (e2 : yx2 = Int64.ofInt x2) (x4 : Int) (yx4 : Int32) (e4 : yx4 = Int32.ofInt x4) (s : gx_S) (σ : fx_S) (es : σ = gx s) (q : Int × gx_S), gm_162_10 n x1 x2 x4 s = some q → fm_162_10 n yx1 yx2 yx4 σ = some (Int64.ofInt q.1, gx q.2) := by
  intro n
  induction n with
  | zero =>
    intro x1 yx1 e1 x2 yx2 e2 x4 yx4 e4 s σ es q  h
    rw [gm_162_10] at h
    exact fx_no h
  | succ n ih =>
    intro x1 yx1 e1 x2 yx2 e2 x4 yx4 e4 s σ es q  h
    rw [gm_162_10] at h
    rw [fm_162_10]
    obtain ⟨z1, h⟩ := fx_gd h
    obtain ⟨z2, h⟩ := fx_gd h
    by_cases c3 : (s.1 215 18) ≤ x4
    · rw [if_pos c3] at h
      refine gb_t ((gc_le (gf1 es 215 18) e4 z2 z1).mpr c3) ?_
      obtain ⟨z6, h⟩ := fx_gd h
      refine gb_bind (gl_ld es e1 ga_223 z6) ?_
      obtain ⟨z7, h⟩ := fx_gd h
      by_cases c8 : ¬ (s.1 223 (x1).toNat) = 0
      · rw [if_pos c8] at h
        refine gb_t ((gc_ne (gr (s.1 223 (x1).toNat)) kg_0 z7 (by decide)).mpr c8) ?_
        have h := Option.some.inj h
        subst h
        exact gretl e2 es
      · rw [if_neg c8] at h
        refine gb_f (fun q => c8 ((gc_ne (gr (s.1 223 (x1).toNat)) kg_0 z7 (by decide)).mp q)) ?_
        have h := Option.some.inj h
        subst h
        exact gretl kgl_0 es
    · rw [if_neg c3] at h
      refine gb_f (fun q => c3 ((gc_le (gf1 es 215 18) e4 z2 z1).mp q)) ?_
      obtain ⟨z11, h⟩ := fx_gd h
      refine gb_bind (gl_ldl es e1 ga_221 z11) ?_
      obtain ⟨q13, w12, h⟩ := fx_bd h
      refine gb_bind (gf_160 e1 e4 es w12) ?_
      obtain ⟨z16, h⟩ := fx_gd h
      refine gb_bind (gl_ld (rfl : _ = gx q13.2) (gr q13.1) ga_222 z16) ?_
      obtain ⟨z17, h⟩ := fx_gd h
      obtain ⟨q19, w18, h⟩ := fx_bd h
      refine gb_bind (gf_160 e1 e4 (rfl : _ = gx q13.2) w18) ?_
      refine gb_bind (gl_ld (rfl : _ = gx q19.2) e1 ga_223 z11) ?_
      obtain ⟨z22, h⟩ := fx_gd h
      by_cases c23 : ¬ (q19.2.1 223 (x1).toNat) = 0
      · rw [if_pos c23] at h
        refine gb_t ((gc_ne (gr (q19.2.1 223 (x1).toNat)) kg_0 z22 (by decide)).mpr c23) ?_
        refine gb_bind (gl_ld (rfl : _ = gx q19.2) e1 ga_223 z11) ?_
        obtain ⟨z26, h⟩ := fx_gd h
        refine gb_t (gcl_nz (ga_i2l (gr (q19.2.1 223 (x1).toNat)) z22) z26) ?_
        exact gf_162_73 ih _ _ e1 _ _ e2 _ _ e4 _ _ (gal_mul (gr2 (s.2 221 (x1).toNat)) (ga_i2l (gr (q13.2.1 222 (q13.1).toNat)) z17)) _ _ (gr q19.1) _ _ (gal_div (gal_mul (gr2 (s.2 221 (x1).toNat)) (ga_i2l (gr (q13.2.1 222 (q13.1).toNat)) z17)) (ga_i2l (gr (q19.2.1 223 (x1).toNat)) z22) z26) _ _ (rfl : _ = gx q19.2) _ h
      · rw [if_neg c23] at h
        refine gb_f (fun q => c23 ((gc_ne (gr (q19.2.1 223 (x1).toNat)) kg_0 z22 (by decide)).mp q)) ?_
        exact gf_162_73 ih _ _ e1 _ _ e2 _ _ e4 _ _ (gal_mul (gr2 (s.2 221 (x1).toNat)) (ga_i2l (gr (q13.2.1 222 (q13.1).toNat)) z17)) _ _ (gr q19.1) _ _ kgl_0 _ _ (rfl : _ = gx q19.2) _ h
def gm_162 (x1 : Int) (s : gx_S) : Option (Int × gx_S) :=
  if 0 ≤ x1 ∧ x1 < 8 then (
  gm_162_10 100000 x1 (s.2 221 (x1).toNat) 0 s) else none
theorem gf_162 {x1 : Int} {yx1 : Int32} (e1 : yx1 = Int32.ofInt x1) {s : gx_S} {σ : fx_S} (es : σ = gx s) {q : Int × gx_S} (h : gm_162 x1 s = some q) : fm_162 yx1 σ = some (Int64.ofInt q.1, gx q.2) := by
  unfold gm_162 at h
  unfold fm_162
  obtain ⟨z82, h⟩ := fx_gd h
  refine gb_bind (gl_ldl es e1 ga_221 z82) ?_
  exact gf_162_10 100000 _ _ e1 _ _ (gr2 (s.2 221 (x1).toNat)) _ _ kg_0 _ _ es _ h

/-! ZoneSharesModel.givesByRests(I)V -/
def gm_163_79 (k_18 : Int → Int → Int → Int → gx_S → Option (gx_S)) (x1 : Int) (x2 : Int) (x4 : Int) (x5 : Int) (s : gx_S) : Option (gx_S) :=
  k_18 x1 x2 x4 (x5 + 1) s
theorem gf_163_79 {kf_18 : Int32 → Int64 → Int32 → Int32 → fx_S → Option (fx_S)} {kg_18 : Int → Int → Int → Int → gx_S → Option (gx_S)} (hk_18 : ∀ (x1 : Int) (yx1 : Int32) (e1 : yx1 = Int32.ofInt x1) (x2 : Int) (yx2 : Int64) (e2 : yx2 = Int64.ofInt x2) (x4 : Int) (yx4 : Int32) (e4 : yx4 = Int32.ofInt x4) (x5 : Int) (yx5 : Int32) (e5 : yx5 = Int32.ofInt x5) (s : gx_S) (σ : fx_S) (es : σ = gx s) (q : gx_S), kg_18 x1 x2 x4 x5 s = some q → kf_18 yx1 yx2 yx4 yx5 σ = some (gx q)) (x1 : Int) (yx1 : Int32) (e1 : yx1 = Int32.ofInt x1) (x2 : Int) (yx2 : Int64) (e2 : yx2 = Int64.ofInt x2) (x4 : Int) (yx4 : Int32) (e4 : yx4 = Int32.ofInt x4) (x5 : Int) (yx5 : Int32) (e5 : yx5 = Int32.ofInt x5) (s : gx_S) (σ : fx_S) (es : σ = gx s) (q : gx_S) (h : gm_163_79 kg_18 x1 x2 x4 x5 s = some q) : fm_163_79 kf_18 yx1 yx2 yx4 yx5 σ = some (gx q) := by
  unfold gm_163_79 at h
  unfold fm_163_79
  exact hk_18 _ _ e1 _ _ e2 _ _ e4 _ _ (ga_add e5 kg_1) _ _ es _ h
def gm_163_75 (k_18 : Int → Int → Int → Int → gx_S → Option (gx_S)) (x1 : Int) (x2 : Int) (x5 : Int) (s : gx_S) : Option (gx_S) :=
  gm_163_79 k_18 x1 x2 x5 x5 s
theorem gf_163_75 {kf_18 : Int32 → Int64 → Int32 → Int32 → fx_S → Option (fx_S)} {kg_18 : Int → Int → Int → Int → gx_S → Option (gx_S)} (hk_18 : ∀ (x1 : Int) (yx1 : Int32) (e1 : yx1 = Int32.ofInt x1) (x2 : Int) (yx2 : Int64) (e2 : yx2 = Int64.ofInt x2) (x4 : Int) (yx4 : Int32) (e4 : yx4 = Int32.ofInt x4) (x5 : Int) (yx5 : Int32) (e5 : yx5 = Int32.ofInt x5) (s : gx_S) (σ : fx_S) (es : σ = gx s) (q : gx_S), kg_18 x1 x2 x4 x5 s = some q → kf_18 yx1 yx2 yx4 yx5 σ = some (gx q)) (x1 : Int) (yx1 : Int32) (e1 : yx1 = Int32.ofInt x1) (x2 : Int) (yx2 : Int64) (e2 : yx2 = Int64.ofInt x2) (x5 : Int) (yx5 : Int32) (e5 : yx5 = Int32.ofInt x5) (s : gx_S) (σ : fx_S) (es : σ = gx s) (q : gx_S) (h : gm_163_75 kg_18 x1 x2 x5 s = some q) : fm_163_75 kf_18 yx1 yx2 yx5 σ = some (gx q) := by
  unfold gm_163_75 at h
  unfold fm_163_75
  exact gf_163_79 hk_18 _ _ e1 _ _ e2 _ _ e5 _ _ e5 _ _ es _ h
def gm_163_18 (k_6 : Int → Int → gx_S → Option (gx_S)) : Nat → Int → Int → Int → Int → gx_S → Option (gx_S)
  | 0, _, _, _, _, _ => none
  | n + 1, x1, x2, x4, x5, s =>
    if (-2147483648 ≤ x5 ∧ x5 ≤ 2147483647) then (
    if (-2147483648 ≤ (s.1 215 18) ∧ (s.1 215 18) ≤ 2147483647) then (
    if (s.1 215 18) ≤ x5 then (
      (gm_160 x1 x4 s).bind fun q5 =>
      if 0 ≤ q5.1 ∧ q5.1 < 72 then (
      (gm_160 x1 x4 (gw2 q5.2 224 (q5.1).toNat ((q5.2.2 224 (q5.1).toNat) + 1))).bind fun q12 =>
      if 0 ≤ q12.1 ∧ q12.1 < 72 then (
      k_6 x1 (x2 - 1) (gw2 q12.2 225 (q12.1).toNat 0)) else none) else none) else (
      (gm_160 x1 x5 s).bind fun q17 =>
      if 0 ≤ q17.1 ∧ q17.1 < 72 then (
      if (-9223372036854775808 ≤ (q17.2.2 225 (q17.1).toNat) ∧ (q17.2.2 225 (q17.1).toNat) ≤ 9223372036854775807) then (
      if (q17.2.2 225 (q17.1).toNat) ≤ 0 then (
        gm_163_79 (gm_163_18 k_6 n) x1 x2 x4 x5 q17.2) else (
        if (-2147483648 ≤ x4 ∧ x4 ≤ 2147483647) then (
        if x4 = (-1) then (
          gm_163_75 (gm_163_18 k_6 n) x1 x2 x5 q17.2) else (
          (gm_160 x1 x5 q17.2).bind fun q26 =>
          if 0 ≤ q26.1 ∧ q26.1 < 72 then (
          (gm_160 x1 x4 q26.2).bind fun q31 =>
          if 0 ≤ q31.1 ∧ q31.1 < 72 then (
          if (-9223372036854775808 ≤ (q26.2.2 225 (q26.1).toNat) ∧ (q26.2.2 225 (q26.1).toNat) ≤ 9223372036854775807) then (
          if (-9223372036854775808 ≤ (q31.2.2 225 (q31.1).toNat) ∧ (q31.2.2 225 (q31.1).toNat) ≤ 9223372036854775807) then (
          if (q26.2.2 225 (q26.1).toNat) ≤ (q31.2.2 225 (q31.1).toNat) then (
            gm_163_79 (gm_163_18 k_6 n) x1 x2 x4 x5 q31.2) else (
            gm_163_75 (gm_163_18 k_6 n) x1 x2 x5 q31.2)) else none) else none) else none) else none)) else none)) else none) else none)) else none) else none
theorem gf_163_18 {kf_6 : Int32 → Int64 → fx_S → Option (fx_S)} {kg_6 : Int → Int → gx_S → Option (gx_S)} (hk_6 : ∀ (x1 : Int) (yx1 : Int32) (e1 : yx1 = Int32.ofInt x1) (x2 : Int) (yx2 : Int64) (e2 : yx2 = Int64.ofInt x2) (s : gx_S) (σ : fx_S) (es : σ = gx s) (q : gx_S), kg_6 x1 x2 s = some q → kf_6 yx1 yx2 σ = some (gx q)) : ∀ (n : Nat) (x1 : Int) (yx1 : Int32) (e1 : yx1 = Int32.ofInt x1) (x2 : Int) (yx2 : Int64) (e2 : yx2 = Int64.ofInt x2) (x4 : Int) (yx4 : Int32) (e4 : yx4 = Int32.ofInt x4) (x5 : Int) (yx5 : Int32) (e5 : yx5 = Int32.ofInt x5) (s : gx_S) (σ : fx_S) (es : σ = gx s) (q : gx_S), gm_163_18 kg_6 n x1 x2 x4 x5 s = some q → fm_163_18 kf_6 n yx1 yx2 yx4 yx5 σ = some (gx q) := by
  intro n
  induction n with
  | zero =>
    intro x1 yx1 e1 x2 yx2 e2 x4 yx4 e4 x5 yx5 e5 s σ es q  h
    rw [gm_163_18] at h
    exact fx_no h
  | succ n ih =>
    intro x1 yx1 e1 x2 yx2 e2 x4 yx4 e4 x5 yx5 e5 s σ es q  h
    rw [gm_163_18] at h
    rw [fm_163_18]
    obtain ⟨z1, h⟩ := fx_gd h
    obtain ⟨z2, h⟩ := fx_gd h
    by_cases c3 : (s.1 215 18) ≤ x5
    · rw [if_pos c3] at h
      refine gb_t ((gc_le (gf1 es 215 18) e5 z2 z1).mpr c3) ?_
      obtain ⟨q5, w4, h⟩ := fx_bd h
      refine gb_bind (gf_160 e1 e4 es w4) ?_
      obtain ⟨z8, h⟩ := fx_gd h
      refine gb_bind (gl_ldl (rfl : _ = gx q5.2) (gr q5.1) ga_224 z8) ?_
      refine gb_bind (gl_stl (rfl : _ = gx q5.2) (gr q5.1) (gal_add (gr2 (q5.2.2 224 (q5.1).toNat)) kgl_1) ga_224 z8) ?_
      obtain ⟨q12, w11, h⟩ := fx_bd h
      refine gb_bind (gf_160 e1 e4 (rfl : _ = gx (gw2 q5.2 224 (q5.1).toNat ((q5.2.2 224 (q5.1).toNat) + 1))) w11) ?_
      obtain ⟨z15, h⟩ := fx_gd h
      refine gb_bind (gl_stl (rfl : _ = gx q12.2) (gr q12.1) kgl_0 ga_225 z15) ?_
      exact hk_6 _ _ e1 _ _ (gal_sub e2 kgl_1) _ _ (rfl : _ = gx (gw2 q12.2 225 (q12.1).toNat 0)) _ h
    · rw [if_neg c3] at h
      refine gb_f (fun q => c3 ((gc_le (gf1 es 215 18) e5 z2 z1).mp q)) ?_
      obtain ⟨q17, w16, h⟩ := fx_bd h
      refine gb_bind (gf_160 e1 e5 es w16) ?_
      obtain ⟨z20, h⟩ := fx_gd h
      refine gb_bind (gl_ldl (rfl : _ = gx q17.2) (gr q17.1) ga_225 z20) ?_
      obtain ⟨z21, h⟩ := fx_gd h
      by_cases c22 : (q17.2.2 225 (q17.1).toNat) ≤ 0
      · rw [if_pos c22] at h
        refine gb_t ((gcl_le (gr2 (q17.2.2 225 (q17.1).toNat)) kgl_0 z21 (by decide)).mpr c22) ?_
        exact gf_163_79 ih _ _ e1 _ _ e2 _ _ e4 _ _ e5 _ _ (rfl : _ = gx q17.2) _ h
      · rw [if_neg c22] at h
        refine gb_f (fun q => c22 ((gcl_le (gr2 (q17.2.2 225 (q17.1).toNat)) kgl_0 z21 (by decide)).mp q)) ?_
        obtain ⟨z23, h⟩ := fx_gd h
        by_cases c24 : x4 = (-1)
        · rw [if_pos c24] at h
          refine gb_t ((gc_eq e4 kg_m1 z23 (by decide)).mpr c24) ?_
          exact gf_163_75 ih _ _ e1 _ _ e2 _ _ e5 _ _ (rfl : _ = gx q17.2) _ h
        · rw [if_neg c24] at h
          refine gb_f (fun q => c24 ((gc_eq e4 kg_m1 z23 (by decide)).mp q)) ?_
          obtain ⟨q26, w25, h⟩ := fx_bd h
          refine gb_bind (gf_160 e1 e5 (rfl : _ = gx q17.2) w25) ?_
          obtain ⟨z29, h⟩ := fx_gd h
          refine gb_bind (gl_ldl (rfl : _ = gx q26.2) (gr q26.1) ga_225 z29) ?_
          obtain ⟨q31, w30, h⟩ := fx_bd h
          refine gb_bind (gf_160 e1 e4 (rfl : _ = gx q26.2) w30) ?_
          obtain ⟨z34, h⟩ := fx_gd h
          refine gb_bind (gl_ldl (rfl : _ = gx q31.2) (gr q31.1) ga_225 z34) ?_
          obtain ⟨z35, h⟩ := fx_gd h
          obtain ⟨z36, h⟩ := fx_gd h
          by_cases c37 : (q26.2.2 225 (q26.1).toNat) ≤ (q31.2.2 225 (q31.1).toNat)
          · rw [if_pos c37] at h
            refine gb_t ((gcl_le (gr2 (q26.2.2 225 (q26.1).toNat)) (gr2 (q31.2.2 225 (q31.1).toNat)) z35 z36).mpr c37) ?_
            exact gf_163_79 ih _ _ e1 _ _ e2 _ _ e4 _ _ e5 _ _ (rfl : _ = gx q31.2) _ h
          · rw [if_neg c37] at h
            refine gb_f (fun q => c37 ((gcl_le (gr2 (q26.2.2 225 (q26.1).toNat)) (gr2 (q31.2.2 225 (q31.1).toNat)) z35 z36).mp q)) ?_
            exact gf_163_75 ih _ _ e1 _ _ e2 _ _ e5 _ _ (rfl : _ = gx q31.2) _ h
def gm_163_6 : Nat → Int → Int → gx_S → Option (gx_S)
  | 0, _, _, _ => none
  | n + 1, x1, x2, s =>
    if (-9223372036854775808 ≤ x2 ∧ x2 ≤ 9223372036854775807) then (
    if x2 ≤ 0 then (
      some s) else (
      gm_163_18 (gm_163_6 n) 100000 x1 x2 (-1) 0 s)) else none
theorem gf_163_6 : ∀ (n : Nat) (x1 : Int) (yx1 : Int32) (e1 : yx1 = Int32.ofInt x1) (x2 : Int) (yx2 : Int64) (e2 : yx2 = Int64.ofInt x2) (s : gx_S) (σ : fx_S) (es : σ = gx s) (q : gx_S), gm_163_6 n x1 x2 s = some q → fm_163_6 n yx1 yx2 σ = some (gx q) := by
  intro n
  induction n with
  | zero =>
    intro x1 yx1 e1 x2 yx2 e2 s σ es q  h
    rw [gm_163_6] at h
    exact fx_no h
  | succ n ih =>
    intro x1 yx1 e1 x2 yx2 e2 s σ es q  h
    rw [gm_163_6] at h
    rw [fm_163_6]
    obtain ⟨z1, h⟩ := fx_gd h
    by_cases c2 : x2 ≤ 0
    · rw [if_pos c2] at h
      refine gb_t ((gcl_le e2 kgl_0 z1 (by decide)).mpr c2) ?_
      have h := Option.some.inj h
      subst h
      exact gretv es
    · rw [if_neg c2] at h
      refine gb_f (fun q => c2 ((gcl_le e2 kgl_0 z1 (by decide)).mp q)) ?_
      exact gf_163_18 ih 100000 _ _ e1 _ _ e2 _ _ kg_m1 _ _ kg_0 _ _ es _ h
def gm_163 (x1 : Int) (s : gx_S) : Option (gx_S) :=
  (gm_162 x1 s).bind fun q45 =>
  gm_163_6 100000 x1 q45.1 q45.2
theorem gf_163 {x1 : Int} {yx1 : Int32} (e1 : yx1 = Int32.ofInt x1) {s : gx_S} {σ : fx_S} (es : σ = gx s) {q : gx_S} (h : gm_163 x1 s = some q) : fm_163 yx1 σ = some (gx q) := by
  unfold gm_163 at h
  unfold fm_163
  obtain ⟨q45, w44, h⟩ := fx_bd h
  refine gb_bind (gf_162 e1 es w44) ?_
  exact gf_163_6 100000 _ _ e1 _ _ (gr2 q45.1) _ _ (rfl : _ = gx q45.2) _ h

/-! ZoneSharesModel.divisor(JJ)J -/
def gm_164_6 : Nat → Int → Int → gx_S → Option (Int × gx_S)
  | 0, _, _, _ => none
  | n + 1, x4, x6, s =>
    if (-9223372036854775808 ≤ x6 ∧ x6 ≤ 9223372036854775807) then (
    if x6 = 0 then (
      some (x4, s)) else (
      if 0 ≤ x4 ∧ x4 ≤ 9223372036854775807 ∧ 0 < x6 ∧ x6 ≤ 9223372036854775807 then (
      gm_164_6 n x6 (x4 % x6) s) else none)) else none
theorem gf_164_6 : ∀ (n : Nat) (x4 : Int) (yx4 : Int64) (e4 : yx4 = Int64.ofInt x4) (x6 : Int) (yx6 : Int64) (e6 : yx6 = Int64.ofInt x6) (s : gx_S) (σ : fx_S) (es : σ = gx s) (q : Int × gx_S), gm_164_6 n x4 x6 s = some q → fm_164_6 n yx4 yx6 σ = some (Int64.ofInt q.1, gx q.2) := by
  intro n
  induction n with
  | zero =>
    intro x4 yx4 e4 x6 yx6 e6 s σ es q  h
    rw [gm_164_6] at h
    exact fx_no h
  | succ n ih =>
    intro x4 yx4 e4 x6 yx6 e6 s σ es q  h
    rw [gm_164_6] at h
    rw [fm_164_6]
    obtain ⟨z1, h⟩ := fx_gd h
    by_cases c2 : x6 = 0
    · rw [if_pos c2] at h
      refine gb_t ((gcl_eq e6 kgl_0 z1 (by decide)).mpr c2) ?_
      have h := Option.some.inj h
      subst h
      exact gretl e4 es
    · rw [if_neg c2] at h
      refine gb_f (fun q => c2 ((gcl_eq e6 kgl_0 z1 (by decide)).mp q)) ?_
      obtain ⟨z3, h⟩ := fx_gd h
      refine gb_t (gcl_nz e6 z3) ?_
      exact ih _ _ e6 _ _ (gal_rem e4 e6 z3) _ _ es _ h
def gm_164 (x0 : Int) (x2 : Int) (s : gx_S) : Option (Int × gx_S) :=
  gm_164_6 100000 x0 x2 s
theorem gf_164 {x0 : Int} {yx0 : Int64} (e0 : yx0 = Int64.ofInt x0) {x2 : Int} {yx2 : Int64} (e2 : yx2 = Int64.ofInt x2) {s : gx_S} {σ : fx_S} (es : σ = gx s) {q : Int × gx_S} (h : gm_164 x0 x2 s = some q) : fm_164 yx0 yx2 σ = some (Int64.ofInt q.1, gx q.2) := by
  unfold gm_164 at h
  unfold fm_164
  exact gf_164_6 100000 _ _ e0 _ _ e2 _ _ es _ h

/-! ZoneSharesModel.addsPart(JJ)V -/
def gm_165 (x1 : Int) (x3 : Int) (s : gx_S) : Option (gx_S) :=
  (gm_164 (s.2 215 30) x3 s).bind fun q10 =>
  if 0 ≤ (q10.2.2 215 30) ∧ (q10.2.2 215 30) ≤ 9223372036854775807 ∧ 0 < q10.1 ∧ q10.1 ≤ 9223372036854775807 then (
  if 0 ≤ (((q10.2.2 215 30) / q10.1) * x3) ∧ (((q10.2.2 215 30) / q10.1) * x3) ≤ 9223372036854775807 ∧ 0 < (q10.2.2 215 30) ∧ (q10.2.2 215 30) ≤ 9223372036854775807 then (
  if 0 ≤ (((q10.2.2 215 30) / q10.1) * x3) ∧ (((q10.2.2 215 30) / q10.1) * x3) ≤ 9223372036854775807 ∧ 0 < x3 ∧ x3 ≤ 9223372036854775807 then (
  some (gw2 (gw2 q10.2 215 29 (((q10.2.2 215 29) * ((((q10.2.2 215 30) / q10.1) * x3) / (q10.2.2 215 30))) + (x1 * ((((q10.2.2 215 30) / q10.1) * x3) / x3)))) 215 30 (((q10.2.2 215 30) / q10.1) * x3))) else none) else none) else none
theorem gf_165 {x1 : Int} {yx1 : Int64} (e1 : yx1 = Int64.ofInt x1) {x3 : Int} {yx3 : Int64} (e3 : yx3 = Int64.ofInt x3) {s : gx_S} {σ : fx_S} (es : σ = gx s) {q : gx_S} (h : gm_165 x1 x3 s = some q) : fm_165 yx1 yx3 σ = some (gx q) := by
  unfold gm_165 at h
  unfold fm_165
  obtain ⟨q10, w9, h⟩ := fx_bd h
  refine gb_bind (gf_164 (gf2 es 215 30) e3 es w9) ?_
  obtain ⟨z11, h⟩ := fx_gd h
  refine gb_t (gcl_nz (gr2 q10.1) z11) ?_
  obtain ⟨z13, h⟩ := fx_gd h
  refine gb_t (gcl_nz (gf2 (rfl : _ = gx q10.2) 215 30) z13) ?_
  obtain ⟨z15, h⟩ := fx_gd h
  refine gb_t (gcl_nz e3 z15) ?_
  have h := Option.some.inj h
  subst h
  exact gretv (gx_w2 (gx_w2 (rfl : _ = gx q10.2) (gal_add (gal_mul (gf2 (rfl : _ = gx q10.2) 215 29) (gal_div (gal_mul (gal_div (gf2 (rfl : _ = gx q10.2) 215 30) (gr2 q10.1) z11) e3) (gf2 (rfl : _ = gx q10.2) 215 30) z13)) (gal_mul e1 (gal_div (gal_mul (gal_div (gf2 (rfl : _ = gx q10.2) 215 30) (gr2 q10.1) z11) e3) e3 z15)))) (gal_mul (gal_div (gf2 (rfl : _ = gx q10.2) 215 30) (gr2 q10.1) z11) e3))

/-! ZoneSharesModel.laysColumn(I)V -/
def gm_166_107 (s1 : Int) (s2 : Int) (s3 : Int) (s : gx_S) : Option (gx_S) :=
  (gm_131 s3 s).bind fun q2 =>
  if (-2147483648 ≤ q2.1 ∧ q2.1 ≤ 2147483647) then (
  if 0 ≤ s1 ∧ s1 < 9 then (
  some (gw2 q2.2 228 (s1).toNat (s2 + q2.1))) else none) else none
theorem gf_166_107 (s1 : Int) (ys1 : Int32) (es1 : ys1 = Int32.ofInt s1) (s2 : Int) (ys2 : Int64) (es2 : ys2 = Int64.ofInt s2) (s3 : Int) (ys3 : Int32) (es3 : ys3 = Int32.ofInt s3) (s : gx_S) (σ : fx_S) (es : σ = gx s) (q : gx_S) (h : gm_166_107 s1 s2 s3 s = some q) : fm_166_107 ys1 ys2 ys3 σ = some (gx q) := by
  unfold gm_166_107 at h
  unfold fm_166_107
  obtain ⟨q2, w1, h⟩ := fx_bd h
  refine gb_bind (gf_131 es3 es w1) ?_
  obtain ⟨z3, h⟩ := fx_gd h
  obtain ⟨z6, h⟩ := fx_gd h
  refine gb_bind (gl_stl (rfl : _ = gx q2.2) es1 (gal_add es2 (ga_i2l (gr q2.1) z3)) ga_228 z6) ?_
  have h := Option.some.inj h
  subst h
  exact gretv (rfl : _ = gx (gw2 q2.2 228 (s1).toNat (s2 + q2.1)))
def gm_166_56 (k_12 : Int → Int → gx_S → Option (gx_S)) (x1 : Int) (x2 : Int) (s : gx_S) : Option (gx_S) :=
  k_12 x1 (x2 + 1) s
theorem gf_166_56 {kf_12 : Int32 → Int32 → fx_S → Option (fx_S)} {kg_12 : Int → Int → gx_S → Option (gx_S)} (hk_12 : ∀ (x1 : Int) (yx1 : Int32) (e1 : yx1 = Int32.ofInt x1) (x2 : Int) (yx2 : Int32) (e2 : yx2 = Int32.ofInt x2) (s : gx_S) (σ : fx_S) (es : σ = gx s) (q : gx_S), kg_12 x1 x2 s = some q → kf_12 yx1 yx2 σ = some (gx q)) (x1 : Int) (yx1 : Int32) (e1 : yx1 = Int32.ofInt x1) (x2 : Int) (yx2 : Int32) (e2 : yx2 = Int32.ofInt x2) (s : gx_S) (σ : fx_S) (es : σ = gx s) (q : gx_S) (h : gm_166_56 kg_12 x1 x2 s = some q) : fm_166_56 kf_12 yx1 yx2 σ = some (gx q) := by
  unfold gm_166_56 at h
  unfold fm_166_56
  exact hk_12 _ _ e1 _ _ (ga_add e2 kg_1) _ _ es _ h
def gm_166_12 : Nat → Int → Int → gx_S → Option (gx_S)
  | 0, _, _, _ => none
  | n + 1, x1, x2, s =>
    if (-2147483648 ≤ x2 ∧ x2 ≤ 2147483647) then (
    if (-2147483648 ≤ (s.1 215 17) ∧ (s.1 215 17) ≤ 2147483647) then (
    if (s.1 215 17) ≤ x2 then (
      if 0 ≤ (s.2 215 29) ∧ (s.2 215 29) ≤ 9223372036854775807 ∧ 0 < (s.2 215 30) ∧ (s.2 215 30) ≤ 9223372036854775807 then (
      if 0 ≤ x1 ∧ x1 < 9 then (
      if 0 ≤ ((gw2 s 227 (x1).toNat ((s.2 215 29) / (s.2 215 30))).2 215 29) ∧ ((gw2 s 227 (x1).toNat ((s.2 215 29) / (s.2 215 30))).2 215 29) ≤ 9223372036854775807 ∧ 0 < ((gw2 s 227 (x1).toNat ((s.2 215 29) / (s.2 215 30))).2 215 30) ∧ ((gw2 s 227 (x1).toNat ((s.2 215 29) / (s.2 215 30))).2 215 30) ≤ 9223372036854775807 then (
      if (-9223372036854775808 ≤ (((gw2 s 227 (x1).toNat ((s.2 215 29) / (s.2 215 30))).2 215 29) % ((gw2 s 227 (x1).toNat ((s.2 215 29) / (s.2 215 30))).2 215 30)) ∧ (((gw2 s 227 (x1).toNat ((s.2 215 29) / (s.2 215 30))).2 215 29) % ((gw2 s 227 (x1).toNat ((s.2 215 29) / (s.2 215 30))).2 215 30)) ≤ 9223372036854775807) then (
      if (((gw2 s 227 (x1).toNat ((s.2 215 29) / (s.2 215 30))).2 215 29) % ((gw2 s 227 (x1).toNat ((s.2 215 29) / (s.2 215 30))).2 215 30)) ≤ 0 then (
        gm_166_107 x1 ((gw2 s 227 (x1).toNat ((s.2 215 29) / (s.2 215 30))).2 227 (x1).toNat) 0 (gw2 s 227 (x1).toNat ((s.2 215 29) / (s.2 215 30)))) else (
        gm_166_107 x1 ((gw2 s 227 (x1).toNat ((s.2 215 29) / (s.2 215 30))).2 227 (x1).toNat) 1 (gw2 s 227 (x1).toNat ((s.2 215 29) / (s.2 215 30))))) else none) else none) else none) else none) else (
      (gm_160 x2 x1 s).bind fun q16 =>
      if 0 ≤ q16.1 ∧ q16.1 < 72 then (
      if (-9223372036854775808 ≤ (q16.2.2 225 (q16.1).toNat) ∧ (q16.2.2 225 (q16.1).toNat) ≤ 9223372036854775807) then (
      if (q16.2.2 225 (q16.1).toNat) ≤ 0 then (
        gm_166_56 (gm_166_12 n) x1 x2 q16.2) else (
        (gm_160 x2 x1 q16.2).bind fun q23 =>
        if 0 ≤ q23.1 ∧ q23.1 < 72 then (
        if 0 ≤ x2 ∧ x2 < 8 then (
        if (-2147483648 ≤ (q23.2.1 223 (x2).toNat) ∧ (q23.2.1 223 (x2).toNat) ≤ 2147483647) then (
        (gm_165 (q23.2.2 225 (q23.1).toNat) (q23.2.1 223 (x2).toNat) q23.2).bind fun q32 =>
        gm_166_56 (gm_166_12 n) x1 x2 q32) else none) else none) else none)) else none) else none)) else none) else none
theorem gf_166_12 : ∀ (n : Nat) (x1 : Int) (yx1 : Int32) (e1 : yx1 = Int32.ofInt x1) (x2 : Int) (yx2 : Int32) (e2 : yx2 = Int32.ofInt x2) (s : gx_S) (σ : fx_S) (es : σ = gx s) (q : gx_S), gm_166_12 n x1 x2 s = some q → fm_166_12 n yx1 yx2 σ = some (gx q) := by
  intro n
  induction n with
  | zero =>
    intro x1 yx1 e1 x2 yx2 e2 s σ es q  h
    rw [gm_166_12] at h
    exact fx_no h
  | succ n ih =>
    intro x1 yx1 e1 x2 yx2 e2 s σ es q  h
    rw [gm_166_12] at h
    rw [fm_166_12]
    obtain ⟨z1, h⟩ := fx_gd h
    obtain ⟨z2, h⟩ := fx_gd h
    by_cases c3 : (s.1 215 17) ≤ x2
    · rw [if_pos c3] at h
      refine gb_t ((gc_le (gf1 es 215 17) e2 z2 z1).mpr c3) ?_
      obtain ⟨z4, h⟩ := fx_gd h
      refine gb_t (gcl_nz (gf2 es 215 30) z4) ?_
      obtain ⟨z8, h⟩ := fx_gd h
      refine gb_bind (gl_stl es e1 (gal_div (gf2 es 215 29) (gf2 es 215 30) z4) ga_227 z8) ?_
      refine gb_bind (gl_ldl (rfl : _ = gx (gw2 s 227 (x1).toNat ((s.2 215 29) / (s.2 215 30)))) e1 ga_227 z8) ?_
      obtain ⟨z11, h⟩ := fx_gd h
      refine gb_t (gcl_nz (gf2 (rfl : _ = gx (gw2 s 227 (x1).toNat ((s.2 215 29) / (s.2 215 30)))) 215 30) z11) ?_
      obtain ⟨z13, h⟩ := fx_gd h
      by_cases c14 : (((gw2 s 227 (x1).toNat ((s.2 215 29) / (s.2 215 30))).2 215 29) % ((gw2 s 227 (x1).toNat ((s.2 215 29) / (s.2 215 30))).2 215 30)) ≤ 0
      · rw [if_pos c14] at h
        refine gb_t ((gcl_le (gal_rem (gf2 (rfl : _ = gx (gw2 s 227 (x1).toNat ((s.2 215 29) / (s.2 215 30)))) 215 29) (gf2 (rfl : _ = gx (gw2 s 227 (x1).toNat ((s.2 215 29) / (s.2 215 30)))) 215 30) z11) kgl_0 z13 (by decide)).mpr c14) ?_
        exact gf_166_107 _ _ e1 _ _ (gr2 ((gw2 s 227 (x1).toNat ((s.2 215 29) / (s.2 215 30))).2 227 (x1).toNat)) _ _ kg_0 _ _ (rfl : _ = gx (gw2 s 227 (x1).toNat ((s.2 215 29) / (s.2 215 30)))) _ h
      · rw [if_neg c14] at h
        refine gb_f (fun q => c14 ((gcl_le (gal_rem (gf2 (rfl : _ = gx (gw2 s 227 (x1).toNat ((s.2 215 29) / (s.2 215 30)))) 215 29) (gf2 (rfl : _ = gx (gw2 s 227 (x1).toNat ((s.2 215 29) / (s.2 215 30)))) 215 30) z11) kgl_0 z13 (by decide)).mp q)) ?_
        exact gf_166_107 _ _ e1 _ _ (gr2 ((gw2 s 227 (x1).toNat ((s.2 215 29) / (s.2 215 30))).2 227 (x1).toNat)) _ _ kg_1 _ _ (rfl : _ = gx (gw2 s 227 (x1).toNat ((s.2 215 29) / (s.2 215 30)))) _ h
    · rw [if_neg c3] at h
      refine gb_f (fun q => c3 ((gc_le (gf1 es 215 17) e2 z2 z1).mp q)) ?_
      obtain ⟨q16, w15, h⟩ := fx_bd h
      refine gb_bind (gf_160 e2 e1 es w15) ?_
      obtain ⟨z19, h⟩ := fx_gd h
      refine gb_bind (gl_ldl (rfl : _ = gx q16.2) (gr q16.1) ga_225 z19) ?_
      obtain ⟨z20, h⟩ := fx_gd h
      by_cases c21 : (q16.2.2 225 (q16.1).toNat) ≤ 0
      · rw [if_pos c21] at h
        refine gb_t ((gcl_le (gr2 (q16.2.2 225 (q16.1).toNat)) kgl_0 z20 (by decide)).mpr c21) ?_
        exact gf_166_56 ih _ _ e1 _ _ e2 _ _ (rfl : _ = gx q16.2) _ h
      · rw [if_neg c21] at h
        refine gb_f (fun q => c21 ((gcl_le (gr2 (q16.2.2 225 (q16.1).toNat)) kgl_0 z20 (by decide)).mp q)) ?_
        obtain ⟨q23, w22, h⟩ := fx_bd h
        refine gb_bind (gf_160 e2 e1 (rfl : _ = gx q16.2) w22) ?_
        obtain ⟨z26, h⟩ := fx_gd h
        refine gb_bind (gl_ldl (rfl : _ = gx q23.2) (gr q23.1) ga_225 z26) ?_
        obtain ⟨z29, h⟩ := fx_gd h
        refine gb_bind (gl_ld (rfl : _ = gx q23.2) e2 ga_223 z29) ?_
        obtain ⟨z30, h⟩ := fx_gd h
        obtain ⟨q32, w31, h⟩ := fx_bd h
        refine gb_bind (gf_165 (gr2 (q23.2.2 225 (q23.1).toNat)) (ga_i2l (gr (q23.2.1 223 (x2).toNat)) z30) (rfl : _ = gx q23.2) w31) ?_
        exact gf_166_56 ih _ _ e1 _ _ e2 _ _ (rfl : _ = gx q32) _ h
def gm_166 (x1 : Int) (s : gx_S) : Option (gx_S) :=
  gm_166_12 100000 x1 0 (gw2 (gw2 s 215 29 0) 215 30 1)
theorem gf_166 {x1 : Int} {yx1 : Int32} (e1 : yx1 = Int32.ofInt x1) {s : gx_S} {σ : fx_S} (es : σ = gx s) {q : gx_S} (h : gm_166 x1 s = some q) : fm_166 yx1 σ = some (gx q) := by
  unfold gm_166 at h
  unfold fm_166
  exact gf_166_12 100000 _ _ e1 _ _ kg_0 _ _ (gx_w2 (gx_w2 es kgl_0) kgl_1) _ h

/-! ZoneSharesModel.mayBe(II)Z -/
def gm_167 (x1 : Int) (x2 : Int) (s : gx_S) : Option (Bool × gx_S) :=
  (gm_160 x1 x2 s).bind fun q9 =>
  if 0 ≤ q9.1 ∧ q9.1 < 72 then (
  if (-9223372036854775808 ≤ (q9.2.2 225 (q9.1).toNat) ∧ (q9.2.2 225 (q9.1).toNat) ≤ 9223372036854775807) then (
  if (q9.2.2 225 (q9.1).toNat) ≤ 0 then (
    some (false, q9.2)) else (
    some (true, q9.2))) else none) else none
theorem gf_167 {x1 : Int} {yx1 : Int32} (e1 : yx1 = Int32.ofInt x1) {x2 : Int} {yx2 : Int32} (e2 : yx2 = Int32.ofInt x2) {s : gx_S} {σ : fx_S} (es : σ = gx s) {q : Bool × gx_S} (h : gm_167 x1 x2 s = some q) : fm_167 yx1 yx2 σ = some (q.1, gx q.2) := by
  unfold gm_167 at h
  unfold fm_167
  obtain ⟨q9, w8, h⟩ := fx_bd h
  refine gb_bind (gf_160 e1 e2 es w8) ?_
  obtain ⟨z12, h⟩ := fx_gd h
  refine gb_bind (gl_ldl (rfl : _ = gx q9.2) (gr q9.1) ga_225 z12) ?_
  obtain ⟨z13, h⟩ := fx_gd h
  by_cases c14 : (q9.2.2 225 (q9.1).toNat) ≤ 0
  · rw [if_pos c14] at h
    refine gb_t ((gcl_le (gr2 (q9.2.2 225 (q9.1).toNat)) kgl_0 z13 (by decide)).mpr c14) ?_
    have h := Option.some.inj h
    subst h
    exact gretb (rfl : _ = gx q9.2)
  · rw [if_neg c14] at h
    refine gb_f (fun q => c14 ((gcl_le (gr2 (q9.2.2 225 (q9.1).toNat)) kgl_0 z13 (by decide)).mp q)) ?_
    have h := Option.some.inj h
    subst h
    exact gretb (rfl : _ = gx q9.2)

/-! ZoneSharesModel.unknownOf(I)I -/
def gm_174_36 (k_10 : Int → Int → Int → gx_S → Option (Int × gx_S)) (x1 : Int) (x3 : Int) (s0 : Int) (s1 : Int) (s : gx_S) : Option (Int × gx_S) :=
  k_10 x1 (s0 + s1) (x3 + 1) s
theorem gf_174_36 {kf_10 : Int32 → Int32 → Int32 → fx_S → Option (Int32 × fx_S)} {kg_10 : Int → Int → Int → gx_S → Option (Int × gx_S)} (hk_10 : ∀ (x1 : Int) (yx1 : Int32) (e1 : yx1 = Int32.ofInt x1) (x2 : Int) (yx2 : Int32) (e2 : yx2 = Int32.ofInt x2) (x3 : Int) (yx3 : Int32) (e3 : yx3 = Int32.ofInt x3) (s : gx_S) (σ : fx_S) (es : σ = gx s) (q : Int × gx_S), kg_10 x1 x2 x3 s = some q → kf_10 yx1 yx2 yx3 σ = some (Int32.ofInt q.1, gx q.2)) (x1 : Int) (yx1 : Int32) (e1 : yx1 = Int32.ofInt x1) (x3 : Int) (yx3 : Int32) (e3 : yx3 = Int32.ofInt x3) (s0 : Int) (ys0 : Int32) (es0 : ys0 = Int32.ofInt s0) (s1 : Int) (ys1 : Int32) (es1 : ys1 = Int32.ofInt s1) (s : gx_S) (σ : fx_S) (es : σ = gx s) (q : Int × gx_S) (h : gm_174_36 kg_10 x1 x3 s0 s1 s = some q) : fm_174_36 kf_10 yx1 yx3 ys0 ys1 σ = some (Int32.ofInt q.1, gx q.2) := by
  unfold gm_174_36 at h
  unfold fm_174_36
  exact hk_10 _ _ e1 _ _ (ga_add es0 es1) _ _ (ga_add e3 kg_1) _ _ es _ h
def gm_174_10 : Nat → Int → Int → Int → gx_S → Option (Int × gx_S)
  | 0, _, _, _, _ => none
  | n + 1, x1, x2, x3, s =>
    if (-2147483648 ≤ x3 ∧ x3 ≤ 2147483647) then (
    if 8 ≤ x3 then (
      some (x2, s)) else (
      (gm_153 0 x3 s).bind fun q4 =>
      if (gb q4.1) = 0 then (
        (gm_155 x1 x3 q4.2).bind fun q7 =>
        gm_174_36 (gm_174_10 n) x1 x3 x2 q7.1 q7.2) else (
        gm_174_36 (gm_174_10 n) x1 x3 x2 0 q4.2))) else none
theorem gf_174_10 : ∀ (n : Nat) (x1 : Int) (yx1 : Int32) (e1 : yx1 = Int32.ofInt x1) (x2 : Int) (yx2 : Int32) (e2 : yx2 = Int32.ofInt x2) (x3 : Int) (yx3 : Int32) (e3 : yx3 = Int32.ofInt x3) (s : gx_S) (σ : fx_S) (es : σ = gx s) (q : Int × gx_S), gm_174_10 n x1 x2 x3 s = some q → fm_174_10 n yx1 yx2 yx3 σ = some (Int32.ofInt q.1, gx q.2) := by
  intro n
  induction n with
  | zero =>
    intro x1 yx1 e1 x2 yx2 e2 x3 yx3 e3 s σ es q  h
    rw [gm_174_10] at h
    exact fx_no h
  | succ n ih =>
    intro x1 yx1 e1 x2 yx2 e2 x3 yx3 e3 s σ es q  h
    rw [gm_174_10] at h
    rw [fm_174_10]
    obtain ⟨z1, h⟩ := fx_gd h
    by_cases c2 : 8 ≤ x3
    · rw [if_pos c2] at h
      refine gb_t ((gc_le kg_8 e3 (by decide) z1).mpr c2) ?_
      have h := Option.some.inj h
      subst h
      exact gret e2 es
    · rw [if_neg c2] at h
      refine gb_f (fun q => c2 ((gc_le kg_8 e3 (by decide) z1).mp q)) ?_
      obtain ⟨q4, w3, h⟩ := fx_bd h
      refine gb_bind (gf_153 kg_0 e3 es w3) ?_
      by_cases c5 : (gb q4.1) = 0
      · rw [if_pos c5] at h
        refine gb_t ((gc_eq (gb_b q4.1) kg_0 (gb_r _) (by decide)).mpr c5) ?_
        obtain ⟨q7, w6, h⟩ := fx_bd h
        refine gb_bind (gf_155 e1 e3 (rfl : _ = gx q4.2) w6) ?_
        exact gf_174_36 ih _ _ e1 _ _ e3 _ _ e2 _ _ (gr q7.1) _ _ (rfl : _ = gx q7.2) _ h
      · rw [if_neg c5] at h
        refine gb_f (fun q => c5 ((gc_eq (gb_b q4.1) kg_0 (gb_r _) (by decide)).mp q)) ?_
        exact gf_174_36 ih _ _ e1 _ _ e3 _ _ e2 _ _ kg_0 _ _ (rfl : _ = gx q4.2) _ h
def gm_174 (x1 : Int) (s : gx_S) : Option (Int × gx_S) :=
  (gm_155 x1 8 s).bind fun q11 =>
  gm_174_10 100000 x1 q11.1 0 q11.2
theorem gf_174 {x1 : Int} {yx1 : Int32} (e1 : yx1 = Int32.ofInt x1) {s : gx_S} {σ : fx_S} (es : σ = gx s) {q : Int × gx_S} (h : gm_174 x1 s = some q) : fm_174 yx1 σ = some (Int32.ofInt q.1, gx q.2) := by
  unfold gm_174 at h
  unfold fm_174
  obtain ⟨q11, w10, h⟩ := fx_bd h
  refine gb_bind (gf_155 e1 kg_8 es w10) ?_
  exact gf_174_10 100000 _ _ e1 _ _ (gr q11.1) _ _ kg_0 _ _ (rfl : _ = gx q11.2) _ h

/-! ZoneSharesModel.isShared()Z -/
def gm_175 (s : gx_S) : Option (Bool × gx_S) :=
  if (-2147483648 ≤ (s.1 216 4) ∧ (s.1 216 4) ≤ 2147483647) then (
  if ¬ (s.1 216 4) = 1 then (
    some (false, s)) else (
    (gm_154 0 8 s).bind fun q14 =>
    if (-2147483648 ≤ q14.1 ∧ q14.1 ≤ 2147483647) then (
    if q14.1 ≤ 0 then (
      some (false, q14.2)) else (
      some (true, q14.2))) else none)) else none
theorem gf_175 {s : gx_S} {σ : fx_S} (es : σ = gx s) {q : Bool × gx_S} (h : gm_175 s = some q) : fm_175 σ = some (q.1, gx q.2) := by
  unfold gm_175 at h
  unfold fm_175
  refine gb_bind (gl_ld es kg_4 ga_216 (by decide)) ?_
  obtain ⟨z11, h⟩ := fx_gd h
  by_cases c12 : ¬ (s.1 216 4) = 1
  · rw [if_pos c12] at h
    refine gb_t ((gc_ne (gr (s.1 216 4)) kg_1 z11 (by decide)).mpr c12) ?_
    have h := Option.some.inj h
    subst h
    exact gretb es
  · rw [if_neg c12] at h
    refine gb_f (fun q => c12 ((gc_ne (gr (s.1 216 4)) kg_1 z11 (by decide)).mp q)) ?_
    obtain ⟨q14, w13, h⟩ := fx_bd h
    refine gb_bind (gf_154 kg_0 kg_8 es w13) ?_
    obtain ⟨z15, h⟩ := fx_gd h
    by_cases c16 : q14.1 ≤ 0
    · rw [if_pos c16] at h
      refine gb_t ((gc_le (gr q14.1) kg_0 z15 (by decide)).mpr c16) ?_
      have h := Option.some.inj h
      subst h
      exact gretb (rfl : _ = gx q14.2)
    · rw [if_neg c16] at h
      refine gb_f (fun q => c16 ((gc_le (gr q14.1) kg_0 z15 (by decide)).mp q)) ?_
      have h := Option.some.inj h
      subst h
      exact gretb (rfl : _ = gx q14.2)

/-! ZoneSharesModel.asideOf(I)I -/
def gm_176 (x1 : Int) (s : gx_S) : Option (Int × gx_S) :=
  (gm_175 s).bind fun q7 =>
  if (gb q7.1) = 0 then (
    (gm_174 x1 q7.2).bind fun q10 =>
    some (q10.1, q10.2)) else (
    some (0, q7.2))
theorem gf_176 {x1 : Int} {yx1 : Int32} (e1 : yx1 = Int32.ofInt x1) {s : gx_S} {σ : fx_S} (es : σ = gx s) {q : Int × gx_S} (h : gm_176 x1 s = some q) : fm_176 yx1 σ = some (Int32.ofInt q.1, gx q.2) := by
  unfold gm_176 at h
  unfold fm_176
  obtain ⟨q7, w6, h⟩ := fx_bd h
  refine gb_bind (gf_175 es w6) ?_
  by_cases c8 : (gb q7.1) = 0
  · rw [if_pos c8] at h
    refine gb_t ((gc_eq (gb_b q7.1) kg_0 (gb_r _) (by decide)).mpr c8) ?_
    obtain ⟨q10, w9, h⟩ := fx_bd h
    refine gb_bind (gf_174 e1 (rfl : _ = gx q7.2) w9) ?_
    have h := Option.some.inj h
    subst h
    exact gret (gr q10.1) (rfl : _ = gx q10.2)
  · rw [if_neg c8] at h
    refine gb_f (fun q => c8 ((gc_eq (gb_b q7.1) kg_0 (gb_r _) (by decide)).mp q)) ?_
    have h := Option.some.inj h
    subst h
    exact gret kg_0 (rfl : _ = gx q7.2)

/-! ZoneSharesModel.laysLiving(I)V -/
def gm_177_124 : Nat → Int → gx_S → Option (gx_S)
  | 0, _, _ => none
  | n + 1, x2, s =>
    if (-2147483648 ≤ x2 ∧ x2 ≤ 2147483647) then (
    if 8 ≤ x2 then (
      some s) else (
      if 0 ≤ x2 ∧ x2 < 8 then (
      if 0 ≤ x2 ∧ x2 < 72 then (
      gm_177_124 n (x2 + 1) (gw1 s 236 (x2).toNat ((s.1 236 (x2).toNat) + (s.2 224 (x2).toNat)))) else none) else none)) else none
theorem gf_177_124 : ∀ (n : Nat) (x2 : Int) (yx2 : Int32) (e2 : yx2 = Int32.ofInt x2) (s : gx_S) (σ : fx_S) (es : σ = gx s) (q : gx_S), gm_177_124 n x2 s = some q → fm_177_124 n yx2 σ = some (gx q) := by
  intro n
  induction n with
  | zero =>
    intro x2 yx2 e2 s σ es q  h
    rw [gm_177_124] at h
    exact fx_no h
  | succ n ih =>
    intro x2 yx2 e2 s σ es q  h
    rw [gm_177_124] at h
    rw [fm_177_124]
    obtain ⟨z1, h⟩ := fx_gd h
    by_cases c2 : 8 ≤ x2
    · rw [if_pos c2] at h
      refine gb_t ((gc_le kg_8 e2 (by decide) z1).mpr c2) ?_
      have h := Option.some.inj h
      subst h
      exact gretv es
    · rw [if_neg c2] at h
      refine gb_f (fun q => c2 ((gc_le kg_8 e2 (by decide) z1).mp q)) ?_
      obtain ⟨z5, h⟩ := fx_gd h
      refine gb_bind (gl_ld es e2 ga_236 z5) ?_
      obtain ⟨z8, h⟩ := fx_gd h
      refine gb_bind (gl_ldl es e2 ga_224 z8) ?_
      refine gb_bind (gl_st es e2 (ga_add (gr (s.1 236 (x2).toNat)) (ga_l2i (gr2 (s.2 224 (x2).toNat)))) ga_236 z5) ?_
      exact ih _ _ (ga_add e2 kg_1) _ _ (rfl : _ = gx (gw1 s 236 (x2).toNat ((s.1 236 (x2).toNat) + (s.2 224 (x2).toNat)))) _ h
def gm_177_117 (s : gx_S) : Option (gx_S) :=
  (gm_163 0 s).bind fun q2 =>
  gm_177_124 100000 0 q2
theorem gf_177_117 (s : gx_S) (σ : fx_S) (es : σ = gx s) (q : gx_S) (h : gm_177_117 s = some q) : fm_177_117 σ = some (gx q) := by
  unfold gm_177_117 at h
  unfold fm_177_117
  obtain ⟨q2, w1, h⟩ := fx_bd h
  refine gb_bind (gf_163 kg_0 es w1) ?_
  exact gf_177_124 100000 _ _ kg_0 _ _ (rfl : _ = gx q2) _ h
def gm_177_88 : Nat → Int → gx_S → Option (gx_S)
  | 0, _, _ => none
  | n + 1, x2, s =>
    if (-2147483648 ≤ x2 ∧ x2 ≤ 2147483647) then (
    if 8 ≤ x2 then (
      (gm_161 0 s).bind fun q4 =>
      gm_177_117 q4.2) else (
      (gm_158 x2 s).bind fun q6 =>
      if 0 ≤ x2 ∧ x2 < 72 then (
      gm_177_88 n (x2 + 1) (gw1 q6.2 222 (x2).toNat q6.1)) else none)) else none
theorem gf_177_88 : ∀ (n : Nat) (x2 : Int) (yx2 : Int32) (e2 : yx2 = Int32.ofInt x2) (s : gx_S) (σ : fx_S) (es : σ = gx s) (q : gx_S), gm_177_88 n x2 s = some q → fm_177_88 n yx2 σ = some (gx q) := by
  intro n
  induction n with
  | zero =>
    intro x2 yx2 e2 s σ es q  h
    rw [gm_177_88] at h
    exact fx_no h
  | succ n ih =>
    intro x2 yx2 e2 s σ es q  h
    rw [gm_177_88] at h
    rw [fm_177_88]
    obtain ⟨z1, h⟩ := fx_gd h
    by_cases c2 : 8 ≤ x2
    · rw [if_pos c2] at h
      refine gb_t ((gc_le kg_8 e2 (by decide) z1).mpr c2) ?_
      obtain ⟨q4, w3, h⟩ := fx_bd h
      refine gb_bind (gf_161 kg_0 es w3) ?_
      exact gf_177_117 _ _ (rfl : _ = gx q4.2) _ h
    · rw [if_neg c2] at h
      refine gb_f (fun q => c2 ((gc_le kg_8 e2 (by decide) z1).mp q)) ?_
      obtain ⟨q6, w5, h⟩ := fx_bd h
      refine gb_bind (gf_158 e2 es w5) ?_
      obtain ⟨z9, h⟩ := fx_gd h
      refine gb_bind (gl_st (rfl : _ = gx q6.2) e2 (gr q6.1) ga_222 z9) ?_
      exact ih _ _ (ga_add e2 kg_1) _ _ (rfl : _ = gx (gw1 q6.2 222 (x2).toNat q6.1)) _ h
def gm_177_51 (k_21 : Int → Int → gx_S → Option (gx_S)) (x1 : Int) (x2 : Int) (s1 : Int) (s2 : Int) (s : gx_S) : Option (gx_S) :=
  if 0 ≤ s1 ∧ s1 < 8 then (
  if 0 ≤ x2 ∧ x2 < 8 then (
  if 0 ≤ x2 ∧ x2 < 72 then (
  k_21 x1 (x2 + 1) (gw1 (gw1 s 236 (s1).toNat s2) 222 (x2).toNat ((gw1 s 236 (s1).toNat s2).1 236 (x2).toNat))) else none) else none) else none
theorem gf_177_51 {kf_21 : Int32 → Int32 → fx_S → Option (fx_S)} {kg_21 : Int → Int → gx_S → Option (gx_S)} (hk_21 : ∀ (x1 : Int) (yx1 : Int32) (e1 : yx1 = Int32.ofInt x1) (x2 : Int) (yx2 : Int32) (e2 : yx2 = Int32.ofInt x2) (s : gx_S) (σ : fx_S) (es : σ = gx s) (q : gx_S), kg_21 x1 x2 s = some q → kf_21 yx1 yx2 σ = some (gx q)) (x1 : Int) (yx1 : Int32) (e1 : yx1 = Int32.ofInt x1) (x2 : Int) (yx2 : Int32) (e2 : yx2 = Int32.ofInt x2) (s1 : Int) (ys1 : Int32) (es1 : ys1 = Int32.ofInt s1) (s2 : Int) (ys2 : Int32) (es2 : ys2 = Int32.ofInt s2) (s : gx_S) (σ : fx_S) (es : σ = gx s) (q : gx_S) (h : gm_177_51 kg_21 x1 x2 s1 s2 s = some q) : fm_177_51 kf_21 yx1 yx2 ys1 ys2 σ = some (gx q) := by
  unfold gm_177_51 at h
  unfold fm_177_51
  obtain ⟨z3, h⟩ := fx_gd h
  refine gb_bind (gl_st es es1 es2 ga_236 z3) ?_
  obtain ⟨z6, h⟩ := fx_gd h
  refine gb_bind (gl_ld (rfl : _ = gx (gw1 s 236 (s1).toNat s2)) e2 ga_236 z6) ?_
  obtain ⟨z9, h⟩ := fx_gd h
  refine gb_bind (gl_st (rfl : _ = gx (gw1 s 236 (s1).toNat s2)) e2 (gr ((gw1 s 236 (s1).toNat s2).1 236 (x2).toNat)) ga_222 z9) ?_
  exact hk_21 _ _ e1 _ _ (ga_add e2 kg_1) _ _ (rfl : _ = gx (gw1 (gw1 s 236 (s1).toNat s2) 222 (x2).toNat ((gw1 s 236 (s1).toNat s2).1 236 (x2).toNat))) _ h
def gm_177_21 : Nat → Int → Int → gx_S → Option (gx_S)
  | 0, _, _, _ => none
  | n + 1, x1, x2, s =>
    if (-2147483648 ≤ x2 ∧ x2 ≤ 2147483647) then (
    if 8 ≤ x2 then (
      (gm_175 s).bind fun q4 =>
      if ¬ (gb q4.1) = 0 then (
        (gm_161 0 q4.2).bind fun q7 =>
        if (-2147483648 ≤ q7.1 ∧ q7.1 ≤ 2147483647) then (
        if ¬ q7.1 = 0 then (
          gm_177_117 q7.2) else (
          gm_177_88 100000 0 q7.2)) else none) else (
        some q4.2)) else (
      (gm_153 0 x2 s).bind fun q11 =>
      if (gb q11.1) = 0 then (
        gm_177_51 (gm_177_21 n) x1 x2 x2 0 q11.2) else (
        (gm_155 x1 x2 q11.2).bind fun q14 =>
        gm_177_51 (gm_177_21 n) x1 x2 x2 q14.1 q14.2))) else none
theorem gf_177_21 : ∀ (n : Nat) (x1 : Int) (yx1 : Int32) (e1 : yx1 = Int32.ofInt x1) (x2 : Int) (yx2 : Int32) (e2 : yx2 = Int32.ofInt x2) (s : gx_S) (σ : fx_S) (es : σ = gx s) (q : gx_S), gm_177_21 n x1 x2 s = some q → fm_177_21 n yx1 yx2 σ = some (gx q) := by
  intro n
  induction n with
  | zero =>
    intro x1 yx1 e1 x2 yx2 e2 s σ es q  h
    rw [gm_177_21] at h
    exact fx_no h
  | succ n ih =>
    intro x1 yx1 e1 x2 yx2 e2 s σ es q  h
    rw [gm_177_21] at h
    rw [fm_177_21]
    obtain ⟨z1, h⟩ := fx_gd h
    by_cases c2 : 8 ≤ x2
    · rw [if_pos c2] at h
      refine gb_t ((gc_le kg_8 e2 (by decide) z1).mpr c2) ?_
      obtain ⟨q4, w3, h⟩ := fx_bd h
      refine gb_bind (gf_175 es w3) ?_
      by_cases c5 : ¬ (gb q4.1) = 0
      · rw [if_pos c5] at h
        refine gb_t ((gc_ne (gb_b q4.1) kg_0 (gb_r _) (by decide)).mpr c5) ?_
        obtain ⟨q7, w6, h⟩ := fx_bd h
        refine gb_bind (gf_161 kg_0 (rfl : _ = gx q4.2) w6) ?_
        obtain ⟨z8, h⟩ := fx_gd h
        by_cases c9 : ¬ q7.1 = 0
        · rw [if_pos c9] at h
          refine gb_t ((gc_ne (gr q7.1) kg_0 z8 (by decide)).mpr c9) ?_
          exact gf_177_117 _ _ (rfl : _ = gx q7.2) _ h
        · rw [if_neg c9] at h
          refine gb_f (fun q => c9 ((gc_ne (gr q7.1) kg_0 z8 (by decide)).mp q)) ?_
          exact gf_177_88 100000 _ _ kg_0 _ _ (rfl : _ = gx q7.2) _ h
      · rw [if_neg c5] at h
        refine gb_f (fun q => c5 ((gc_ne (gb_b q4.1) kg_0 (gb_r _) (by decide)).mp q)) ?_
        have h := Option.some.inj h
        subst h
        exact gretv (rfl : _ = gx q4.2)
    · rw [if_neg c2] at h
      refine gb_f (fun q => c2 ((gc_le kg_8 e2 (by decide) z1).mp q)) ?_
      obtain ⟨q11, w10, h⟩ := fx_bd h
      refine gb_bind (gf_153 kg_0 e2 es w10) ?_
      by_cases c12 : (gb q11.1) = 0
      · rw [if_pos c12] at h
        refine gb_t ((gc_eq (gb_b q11.1) kg_0 (gb_r _) (by decide)).mpr c12) ?_
        exact gf_177_51 ih _ _ e1 _ _ e2 _ _ e2 _ _ kg_0 _ _ (rfl : _ = gx q11.2) _ h
      · rw [if_neg c12] at h
        refine gb_f (fun q => c12 ((gc_eq (gb_b q11.1) kg_0 (gb_r _) (by decide)).mp q)) ?_
        obtain ⟨q14, w13, h⟩ := fx_bd h
        refine gb_bind (gf_155 e1 e2 (rfl : _ = gx q11.2) w13) ?_
        exact gf_177_51 ih _ _ e1 _ _ e2 _ _ e2 _ _ (gr q14.1) _ _ (rfl : _ = gx q14.2) _ h
def gm_177 (x1 : Int) (s : gx_S) : Option (gx_S) :=
  (gm_159 1 8 s).bind fun q53 =>
  (gm_174 x1 q53).bind fun q55 =>
  if (-2147483648 ≤ q55.1 ∧ q55.1 ≤ 2147483647) then (
  gm_177_21 100000 x1 0 (gw2 q55.2 221 0 q55.1)) else none
theorem gf_177 {x1 : Int} {yx1 : Int32} (e1 : yx1 = Int32.ofInt x1) {s : gx_S} {σ : fx_S} (es : σ = gx s) {q : gx_S} (h : gm_177 x1 s = some q) : fm_177 yx1 σ = some (gx q) := by
  unfold gm_177 at h
  unfold fm_177
  obtain ⟨q53, w52, h⟩ := fx_bd h
  refine gb_bind (gf_159 kg_1 kg_8 es w52) ?_
  obtain ⟨q55, w54, h⟩ := fx_bd h
  refine gb_bind (gf_174 e1 (rfl : _ = gx q53) w54) ?_
  obtain ⟨z56, h⟩ := fx_gd h
  refine gb_bind (gl_stl (rfl : _ = gx q55.2) kg_0 (ga_i2l (gr q55.1) z56) ga_221 (by decide)) ?_
  exact gf_177_21 100000 _ _ e1 _ _ kg_0 _ _ (rfl : _ = gx (gw2 q55.2 221 0 q55.1)) _ h

/-! ZoneSharesModel.allTold(I)I -/
def gm_178_4 : Nat → Int → Int → Int → gx_S → Option (Int × gx_S)
  | 0, _, _, _, _ => none
  | n + 1, x1, x2, x3, s =>
    if (-2147483648 ≤ x3 ∧ x3 ≤ 2147483647) then (
    if 9 ≤ x3 then (
      some (x2, s)) else (
      (gm_155 x1 x3 s).bind fun q4 =>
      gm_178_4 n x1 (x2 + q4.1) (x3 + 1) q4.2)) else none
theorem gf_178_4 : ∀ (n : Nat) (x1 : Int) (yx1 : Int32) (e1 : yx1 = Int32.ofInt x1) (x2 : Int) (yx2 : Int32) (e2 : yx2 = Int32.ofInt x2) (x3 : Int) (yx3 : Int32) (e3 : yx3 = Int32.ofInt x3) (s : gx_S) (σ : fx_S) (es : σ = gx s) (q : Int × gx_S), gm_178_4 n x1 x2 x3 s = some q → fm_178_4 n yx1 yx2 yx3 σ = some (Int32.ofInt q.1, gx q.2) := by
  intro n
  induction n with
  | zero =>
    intro x1 yx1 e1 x2 yx2 e2 x3 yx3 e3 s σ es q  h
    rw [gm_178_4] at h
    exact fx_no h
  | succ n ih =>
    intro x1 yx1 e1 x2 yx2 e2 x3 yx3 e3 s σ es q  h
    rw [gm_178_4] at h
    rw [fm_178_4]
    obtain ⟨z1, h⟩ := fx_gd h
    by_cases c2 : 9 ≤ x3
    · rw [if_pos c2] at h
      refine gb_t ((gc_le kg_9 e3 (by decide) z1).mpr c2) ?_
      have h := Option.some.inj h
      subst h
      exact gret e2 es
    · rw [if_neg c2] at h
      refine gb_f (fun q => c2 ((gc_le kg_9 e3 (by decide) z1).mp q)) ?_
      obtain ⟨q4, w3, h⟩ := fx_bd h
      refine gb_bind (gf_155 e1 e3 es w3) ?_
      exact ih _ _ e1 _ _ (ga_add e2 (gr q4.1)) _ _ (ga_add e3 kg_1) _ _ (rfl : _ = gx q4.2) _ h
def gm_178 (x1 : Int) (s : gx_S) : Option (Int × gx_S) :=
  gm_178_4 100000 x1 0 0 s
theorem gf_178 {x1 : Int} {yx1 : Int32} (e1 : yx1 = Int32.ofInt x1) {s : gx_S} {σ : fx_S} (es : σ = gx s) {q : Int × gx_S} (h : gm_178 x1 s = some q) : fm_178 yx1 σ = some (Int32.ofInt q.1, gx q.2) := by
  unfold gm_178 at h
  unfold fm_178
  exact gf_178_4 100000 _ _ e1 _ _ kg_0 _ _ kg_0 _ _ es _ h
end
section
/-! ZoneSharesModel.people(II)I -/
def gm_179 (x1 : Int) (x2 : Int) (s : gx_S) : Option (Int × gx_S) :=
  (gm_148 x1 s).bind fun q23 =>
  if (gb q23.1) = 0 then (
    some ((-1), q23.2)) else (
    if (-2147483648 ≤ x2 ∧ x2 ≤ 2147483647) then (
    (gm_130 x2 0 10 q23.2).bind fun q27 =>
    if ¬ (gb q27.1) = 0 then (
      if x2 = 8 then (
        (gm_174 x1 q27.2).bind fun q42 =>
        some (q42.1, q42.2)) else (
        if x2 = 9 then (
          (gm_176 x1 q27.2).bind fun q40 =>
          some (q40.1, q40.2)) else (
          if x2 = 10 then (
            (gm_178 x1 q27.2).bind fun q38 =>
            some (q38.1, q38.2)) else (
            (gm_177 x1 q27.2).bind fun q33 =>
            if 0 ≤ x2 ∧ x2 < 8 then (
            some ((q33.1 236 (x2).toNat), q33)) else none)))) else (
      some ((-1), q27.2))) else none)
theorem gf_179 {x1 : Int} {yx1 : Int32} (e1 : yx1 = Int32.ofInt x1) {x2 : Int} {yx2 : Int32} (e2 : yx2 = Int32.ofInt x2) {s : gx_S} {σ : fx_S} (es : σ = gx s) {q : Int × gx_S} (h : gm_179 x1 x2 s = some q) : fm_179 yx1 yx2 σ = some (Int32.ofInt q.1, gx q.2) := by
  unfold gm_179 at h
  unfold fm_179
  obtain ⟨q23, w22, h⟩ := fx_bd h
  refine gb_bind (gf_148 e1 es w22) ?_
  by_cases c24 : (gb q23.1) = 0
  · rw [if_pos c24] at h
    refine gb_t ((gc_eq (gb_b q23.1) kg_0 (gb_r _) (by decide)).mpr c24) ?_
    have h := Option.some.inj h
    subst h
    exact gret kg_m1 (rfl : _ = gx q23.2)
  · rw [if_neg c24] at h
    refine gb_f (fun q => c24 ((gc_eq (gb_b q23.1) kg_0 (gb_r _) (by decide)).mp q)) ?_
    obtain ⟨z25, h⟩ := fx_gd h
    obtain ⟨q27, w26, h⟩ := fx_bd h
    refine gb_bind (gf_130 (ga_i2l e2 z25) kgl_0 kgl_10 (rfl : _ = gx q23.2) w26) ?_
    by_cases c28 : ¬ (gb q27.1) = 0
    · rw [if_pos c28] at h
      refine gb_t ((gc_ne (gb_b q27.1) kg_0 (gb_r _) (by decide)).mpr c28) ?_
      by_cases c29 : x2 = 8
      · rw [if_pos c29] at h
        refine gb_t ((gc_eq e2 kg_8 z25 (by decide)).mpr c29) ?_
        obtain ⟨q42, w41, h⟩ := fx_bd h
        refine gb_bind (gf_174 e1 (rfl : _ = gx q27.2) w41) ?_
        have h := Option.some.inj h
        subst h
        exact gret (gr q42.1) (rfl : _ = gx q42.2)
      · rw [if_neg c29] at h
        refine gb_f (fun q => c29 ((gc_eq e2 kg_8 z25 (by decide)).mp q)) ?_
        by_cases c30 : x2 = 9
        · rw [if_pos c30] at h
          refine gb_t ((gc_eq e2 kg_9 z25 (by decide)).mpr c30) ?_
          obtain ⟨q40, w39, h⟩ := fx_bd h
          refine gb_bind (gf_176 e1 (rfl : _ = gx q27.2) w39) ?_
          have h := Option.some.inj h
          subst h
          exact gret (gr q40.1) (rfl : _ = gx q40.2)
        · rw [if_neg c30] at h
          refine gb_f (fun q => c30 ((gc_eq e2 kg_9 z25 (by decide)).mp q)) ?_
          by_cases c31 : x2 = 10
          · rw [if_pos c31] at h
            refine gb_t ((gc_eq e2 kg_10 z25 (by decide)).mpr c31) ?_
            obtain ⟨q38, w37, h⟩ := fx_bd h
            refine gb_bind (gf_178 e1 (rfl : _ = gx q27.2) w37) ?_
            have h := Option.some.inj h
            subst h
            exact gret (gr q38.1) (rfl : _ = gx q38.2)
          · rw [if_neg c31] at h
            refine gb_f (fun q => c31 ((gc_eq e2 kg_10 z25 (by decide)).mp q)) ?_
            obtain ⟨q33, w32, h⟩ := fx_bd h
            refine gb_bind (gf_177 e1 (rfl : _ = gx q27.2) w32) ?_
            obtain ⟨z36, h⟩ := fx_gd h
            refine gb_bind (gl_ld (rfl : _ = gx q33) e2 ga_236 z36) ?_
            have h := Option.some.inj h
            subst h
            exact gret (gr (q33.1 236 (x2).toNat)) (rfl : _ = gx q33)
    · rw [if_neg c28] at h
      refine gb_f (fun q => c28 ((gc_ne (gb_b q27.1) kg_0 (gb_r _) (by decide)).mp q)) ?_
      have h := Option.some.inj h
      subst h
      exact gret kg_m1 (rfl : _ = gx q27.2)

/-! ZoneSharesModel.byCells(II)Z -/
def gm_180 (x1 : Int) (x2 : Int) (s : gx_S) : Option (Bool × gx_S) :=
  (gm_157 x1 x2 (-1) 0 s).bind fun q6 =>
  if (-2147483648 ≤ q6.1 ∧ q6.1 ≤ 2147483647) then (
  if ¬ q6.1 = 0 then (
    some (false, q6.2)) else (
    some (true, q6.2))) else none
theorem gf_180 {x1 : Int} {yx1 : Int32} (e1 : yx1 = Int32.ofInt x1) {x2 : Int} {yx2 : Int32} (e2 : yx2 = Int32.ofInt x2) {s : gx_S} {σ : fx_S} (es : σ = gx s) {q : Bool × gx_S} (h : gm_180 x1 x2 s = some q) : fm_180 yx1 yx2 σ = some (q.1, gx q.2) := by
  unfold gm_180 at h
  unfold fm_180
  obtain ⟨q6, w5, h⟩ := fx_bd h
  refine gb_bind (gf_157 e1 e2 kg_m1 kg_0 es w5) ?_
  obtain ⟨z7, h⟩ := fx_gd h
  by_cases c8 : ¬ q6.1 = 0
  · rw [if_pos c8] at h
    refine gb_t ((gc_ne (gr q6.1) kg_0 z7 (by decide)).mpr c8) ?_
    have h := Option.some.inj h
    subst h
    exact gretb (rfl : _ = gx q6.2)
  · rw [if_neg c8] at h
    refine gb_f (fun q => c8 ((gc_ne (gr q6.1) kg_0 z7 (by decide)).mp q)) ?_
    have h := Option.some.inj h
    subst h
    exact gretb (rfl : _ = gx q6.2)

/-! ZoneSharesModel.laysMoved(I)V -/
def gm_181_44 (k_15 : Int → Int → gx_S → Option (gx_S)) : Nat → Int → Int → Int → Int → gx_S → Option (gx_S)
  | 0, _, _, _, _, _ => none
  | n + 1, x1, x2, x3, x4, s =>
    if (-2147483648 ≤ x4 ∧ x4 ≤ 2147483647) then (
    if 9 ≤ x4 then (
      k_15 x1 (x2 + 1) s) else (
      (gm_160 x2 x4 s).bind fun q4 =>
      (gm_157 x1 x2 x4 x3 q4.2).bind fun q6 =>
      if 0 ≤ q4.1 ∧ q4.1 < 72 then (
      gm_181_44 k_15 n x1 x2 x3 (x4 + 1) (gw1 q6.2 222 (q4.1).toNat q6.1)) else none)) else none
theorem gf_181_44 {kf_15 : Int32 → Int32 → fx_S → Option (fx_S)} {kg_15 : Int → Int → gx_S → Option (gx_S)} (hk_15 : ∀ (x1 : Int) (yx1 : Int32) (e1 : yx1 = Int32.ofInt x1) (x2 : Int) (yx2 : Int32) (e2 : yx2 = Int32.ofInt x2) (s : gx_S) (σ : fx_S) (es : σ = gx s) (q : gx_S), kg_15 x1 x2 s = some q → kf_15 yx1 yx2 σ = some (gx q)) : ∀ (n : Nat) (x1 : Int) (yx1 : Int32) (e1 : yx1 = Int32.ofInt x1) (x2 : Int) (yx2 : Int32) (e2 : yx2 = Int32.ofInt x2) (x3 : Int) (yx3 : Int32) (e3 : yx3 = Int32.ofInt x3) (x4 : Int) (yx4 : Int32) (e4 : yx4 = Int32.ofInt x4) (s : gx_S) (σ : fx_S) (es : σ = gx s) (q : gx_S), gm_181_44 kg_15 n x1 x2 x3 x4 s = some q → fm_181_44 kf_15 n yx1 yx2 yx3 yx4 σ = some (gx q) := by
  intro n
  induction n with
  | zero =>
    intro x1 yx1 e1 x2 yx2 e2 x3 yx3 e3 x4 yx4 e4 s σ es q  h
    rw [gm_181_44] at h
    exact fx_no h
  | succ n ih =>
    intro x1 yx1 e1 x2 yx2 e2 x3 yx3 e3 x4 yx4 e4 s σ es q  h
    rw [gm_181_44] at h
    rw [fm_181_44]
    obtain ⟨z1, h⟩ := fx_gd h
    by_cases c2 : 9 ≤ x4
    · rw [if_pos c2] at h
      refine gb_t ((gc_le kg_9 e4 (by decide) z1).mpr c2) ?_
      exact hk_15 _ _ e1 _ _ (ga_add e2 kg_1) _ _ es _ h
    · rw [if_neg c2] at h
      refine gb_f (fun q => c2 ((gc_le kg_9 e4 (by decide) z1).mp q)) ?_
      obtain ⟨q4, w3, h⟩ := fx_bd h
      refine gb_bind (gf_160 e2 e4 es w3) ?_
      obtain ⟨q6, w5, h⟩ := fx_bd h
      refine gb_bind (gf_157 e1 e2 e4 e3 (rfl : _ = gx q4.2) w5) ?_
      obtain ⟨z9, h⟩ := fx_gd h
      refine gb_bind (gl_st (rfl : _ = gx q6.2) (gr q4.1) (gr q6.1) ga_222 z9) ?_
      exact ih _ _ e1 _ _ e2 _ _ e3 _ _ (ga_add e4 kg_1) _ _ (rfl : _ = gx (gw1 q6.2 222 (q4.1).toNat q6.1)) _ h
def gm_181_15 : Nat → Int → Int → gx_S → Option (gx_S)
  | 0, _, _, _ => none
  | n + 1, x1, x2, s =>
    if (-2147483648 ≤ x2 ∧ x2 ≤ 2147483647) then (
    if 8 ≤ x2 then (
      some s) else (
      if 0 ≤ x2 ∧ x2 < 8 then (
      if (-2147483648 ≤ (s.1 236 (x2).toNat) ∧ (s.1 236 (x2).toNat) ≤ 2147483647) then (
      (gm_180 x1 x2 (gw2 s 221 (x2).toNat (s.1 236 (x2).toNat))).bind fun q10 =>
      gm_181_44 (gm_181_15 n) 100000 x1 x2 (gb q10.1) 0 q10.2) else none) else none)) else none
theorem gf_181_15 : ∀ (n : Nat) (x1 : Int) (yx1 : Int32) (e1 : yx1 = Int32.ofInt x1) (x2 : Int) (yx2 : Int32) (e2 : yx2 = Int32.ofInt x2) (s : gx_S) (σ : fx_S) (es : σ = gx s) (q : gx_S), gm_181_15 n x1 x2 s = some q → fm_181_15 n yx1 yx2 σ = some (gx q) := by
  intro n
  induction n with
  | zero =>
    intro x1 yx1 e1 x2 yx2 e2 s σ es q  h
    rw [gm_181_15] at h
    exact fx_no h
  | succ n ih =>
    intro x1 yx1 e1 x2 yx2 e2 s σ es q  h
    rw [gm_181_15] at h
    rw [fm_181_15]
    obtain ⟨z1, h⟩ := fx_gd h
    by_cases c2 : 8 ≤ x2
    · rw [if_pos c2] at h
      refine gb_t ((gc_le kg_8 e2 (by decide) z1).mpr c2) ?_
      have h := Option.some.inj h
      subst h
      exact gretv es
    · rw [if_neg c2] at h
      refine gb_f (fun q => c2 ((gc_le kg_8 e2 (by decide) z1).mp q)) ?_
      obtain ⟨z5, h⟩ := fx_gd h
      refine gb_bind (gl_ld es e2 ga_236 z5) ?_
      obtain ⟨z6, h⟩ := fx_gd h
      refine gb_bind (gl_stl es e2 (ga_i2l (gr (s.1 236 (x2).toNat)) z6) ga_221 z5) ?_
      obtain ⟨q10, w9, h⟩ := fx_bd h
      refine gb_bind (gf_180 e1 e2 (rfl : _ = gx (gw2 s 221 (x2).toNat (s.1 236 (x2).toNat))) w9) ?_
      exact gf_181_44 ih 100000 _ _ e1 _ _ e2 _ _ (gb_b q10.1) _ _ kg_0 _ _ (rfl : _ = gx q10.2) _ h
def gm_181 (x1 : Int) (s : gx_S) : Option (gx_S) :=
  (gm_177 x1 s).bind fun q35 =>
  (gm_159 8 9 q35).bind fun q37 =>
  gm_181_15 100000 x1 0 q37
theorem gf_181 {x1 : Int} {yx1 : Int32} (e1 : yx1 = Int32.ofInt x1) {s : gx_S} {σ : fx_S} (es : σ = gx s) {q : gx_S} (h : gm_181 x1 s = some q) : fm_181 yx1 σ = some (gx q) := by
  unfold gm_181 at h
  unfold fm_181
  obtain ⟨q35, w34, h⟩ := fx_bd h
  refine gb_bind (gf_177 e1 es w34) ?_
  obtain ⟨q37, w36, h⟩ := fx_bd h
  refine gb_bind (gf_159 kg_8 kg_9 (rfl : _ = gx q35) w36) ?_
  exact gf_181_15 100000 _ _ e1 _ _ kg_0 _ _ (rfl : _ = gx q37) _ h

/-! ZoneSharesModel.rowSum(I)I -/
def gm_182_4 : Nat → Int → Int → Int → gx_S → Option (Int × gx_S)
  | 0, _, _, _, _ => none
  | n + 1, x1, x2, x3, s =>
    if (-2147483648 ≤ x3 ∧ x3 ≤ 2147483647) then (
    if (-2147483648 ≤ (s.1 215 18) ∧ (s.1 215 18) ≤ 2147483647) then (
    if (s.1 215 18) ≤ x3 then (
      some (x2, s)) else (
      (gm_160 x1 x3 s).bind fun q5 =>
      if 0 ≤ q5.1 ∧ q5.1 < 72 then (
      gm_182_4 n x1 (x2 + (q5.2.2 224 (q5.1).toNat)) (x3 + 1) q5.2) else none)) else none) else none
theorem gf_182_4 : ∀ (n : Nat) (x1 : Int) (yx1 : Int32) (e1 : yx1 = Int32.ofInt x1) (x2 : Int) (yx2 : Int32) (e2 : yx2 = Int32.ofInt x2) (x3 : Int) (yx3 : Int32) (e3 : yx3 = Int32.ofInt x3) (s : gx_S) (σ : fx_S) (es : σ = gx s) (q : Int × gx_S), gm_182_4 n x1 x2 x3 s = some q → fm_182_4 n yx1 yx2 yx3 σ = some (Int32.ofInt q.1, gx q.2) := by
  intro n
  induction n with
  | zero =>
    intro x1 yx1 e1 x2 yx2 e2 x3 yx3 e3 s σ es q  h
    rw [gm_182_4] at h
    exact fx_no h
  | succ n ih =>
    intro x1 yx1 e1 x2 yx2 e2 x3 yx3 e3 s σ es q  h
    rw [gm_182_4] at h
    rw [fm_182_4]
    obtain ⟨z1, h⟩ := fx_gd h
    obtain ⟨z2, h⟩ := fx_gd h
    by_cases c3 : (s.1 215 18) ≤ x3
    · rw [if_pos c3] at h
      refine gb_t ((gc_le (gf1 es 215 18) e3 z2 z1).mpr c3) ?_
      have h := Option.some.inj h
      subst h
      exact gret e2 es
    · rw [if_neg c3] at h
      refine gb_f (fun q => c3 ((gc_le (gf1 es 215 18) e3 z2 z1).mp q)) ?_
      obtain ⟨q5, w4, h⟩ := fx_bd h
      refine gb_bind (gf_160 e1 e3 es w4) ?_
      obtain ⟨z8, h⟩ := fx_gd h
      refine gb_bind (gl_ldl (rfl : _ = gx q5.2) (gr q5.1) ga_224 z8) ?_
      exact ih _ _ e1 _ _ (ga_add e2 (ga_l2i (gr2 (q5.2.2 224 (q5.1).toNat)))) _ _ (ga_add e3 kg_1) _ _ (rfl : _ = gx q5.2) _ h
def gm_182 (x1 : Int) (s : gx_S) : Option (Int × gx_S) :=
  gm_182_4 100000 x1 0 0 s
theorem gf_182 {x1 : Int} {yx1 : Int32} (e1 : yx1 = Int32.ofInt x1) {s : gx_S} {σ : fx_S} (es : σ = gx s) {q : Int × gx_S} (h : gm_182 x1 s = some q) : fm_182 yx1 σ = some (Int32.ofInt q.1, gx q.2) := by
  unfold gm_182 at h
  unfold fm_182
  exact gf_182_4 100000 _ _ e1 _ _ kg_0 _ _ kg_0 _ _ es _ h

/-! ZoneSharesModel.columnSum(I)I -/
def gm_183_4 : Nat → Int → Int → Int → gx_S → Option (Int × gx_S)
  | 0, _, _, _, _ => none
  | n + 1, x1, x2, x3, s =>
    if (-2147483648 ≤ x3 ∧ x3 ≤ 2147483647) then (
    if (-2147483648 ≤ (s.1 215 17) ∧ (s.1 215 17) ≤ 2147483647) then (
    if (s.1 215 17) ≤ x3 then (
      some (x2, s)) else (
      (gm_160 x3 x1 s).bind fun q5 =>
      if 0 ≤ q5.1 ∧ q5.1 < 72 then (
      gm_183_4 n x1 (x2 + (q5.2.2 224 (q5.1).toNat)) (x3 + 1) q5.2) else none)) else none) else none
theorem gf_183_4 : ∀ (n : Nat) (x1 : Int) (yx1 : Int32) (e1 : yx1 = Int32.ofInt x1) (x2 : Int) (yx2 : Int32) (e2 : yx2 = Int32.ofInt x2) (x3 : Int) (yx3 : Int32) (e3 : yx3 = Int32.ofInt x3) (s : gx_S) (σ : fx_S) (es : σ = gx s) (q : Int × gx_S), gm_183_4 n x1 x2 x3 s = some q → fm_183_4 n yx1 yx2 yx3 σ = some (Int32.ofInt q.1, gx q.2) := by
  intro n
  induction n with
  | zero =>
    intro x1 yx1 e1 x2 yx2 e2 x3 yx3 e3 s σ es q  h
    rw [gm_183_4] at h
    exact fx_no h
  | succ n ih =>
    intro x1 yx1 e1 x2 yx2 e2 x3 yx3 e3 s σ es q  h
    rw [gm_183_4] at h
    rw [fm_183_4]
    obtain ⟨z1, h⟩ := fx_gd h
    obtain ⟨z2, h⟩ := fx_gd h
    by_cases c3 : (s.1 215 17) ≤ x3
    · rw [if_pos c3] at h
      refine gb_t ((gc_le (gf1 es 215 17) e3 z2 z1).mpr c3) ?_
      have h := Option.some.inj h
      subst h
      exact gret e2 es
    · rw [if_neg c3] at h
      refine gb_f (fun q => c3 ((gc_le (gf1 es 215 17) e3 z2 z1).mp q)) ?_
      obtain ⟨q5, w4, h⟩ := fx_bd h
      refine gb_bind (gf_160 e3 e1 es w4) ?_
      obtain ⟨z8, h⟩ := fx_gd h
      refine gb_bind (gl_ldl (rfl : _ = gx q5.2) (gr q5.1) ga_224 z8) ?_
      exact ih _ _ e1 _ _ (ga_add e2 (ga_l2i (gr2 (q5.2.2 224 (q5.1).toNat)))) _ _ (ga_add e3 kg_1) _ _ (rfl : _ = gx q5.2) _ h
def gm_183 (x1 : Int) (s : gx_S) : Option (Int × gx_S) :=
  gm_183_4 100000 x1 0 0 s
theorem gf_183 {x1 : Int} {yx1 : Int32} (e1 : yx1 = Int32.ofInt x1) {s : gx_S} {σ : fx_S} (es : σ = gx s) {q : Int × gx_S} (h : gm_183 x1 s = some q) : fm_183 yx1 σ = some (Int32.ofInt q.1, gx q.2) := by
  unfold gm_183 at h
  unfold fm_183
  exact gf_183_4 100000 _ _ e1 _ _ kg_0 _ _ kg_0 _ _ es _ h

/-! ZoneSharesModel.tableSum()I -/
def gm_184_4 : Nat → Int → Int → gx_S → Option (Int × gx_S)
  | 0, _, _, _ => none
  | n + 1, x1, x2, s =>
    if (-2147483648 ≤ x2 ∧ x2 ≤ 2147483647) then (
    if (-2147483648 ≤ (s.1 215 17) ∧ (s.1 215 17) ≤ 2147483647) then (
    if (s.1 215 17) ≤ x2 then (
      some (x1, s)) else (
      (gm_182 x2 s).bind fun q5 =>
      gm_184_4 n (x1 + q5.1) (x2 + 1) q5.2)) else none) else none
theorem gf_184_4 : ∀ (n : Nat) (x1 : Int) (yx1 : Int32) (e1 : yx1 = Int32.ofInt x1) (x2 : Int) (yx2 : Int32) (e2 : yx2 = Int32.ofInt x2) (s : gx_S) (σ : fx_S) (es : σ = gx s) (q : Int × gx_S), gm_184_4 n x1 x2 s = some q → fm_184_4 n yx1 yx2 σ = some (Int32.ofInt q.1, gx q.2) := by
  intro n
  induction n with
  | zero =>
    intro x1 yx1 e1 x2 yx2 e2 s σ es q  h
    rw [gm_184_4] at h
    exact fx_no h
  | succ n ih =>
    intro x1 yx1 e1 x2 yx2 e2 s σ es q  h
    rw [gm_184_4] at h
    rw [fm_184_4]
    obtain ⟨z1, h⟩ := fx_gd h
    obtain ⟨z2, h⟩ := fx_gd h
    by_cases c3 : (s.1 215 17) ≤ x2
    · rw [if_pos c3] at h
      refine gb_t ((gc_le (gf1 es 215 17) e2 z2 z1).mpr c3) ?_
      have h := Option.some.inj h
      subst h
      exact gret e1 es
    · rw [if_neg c3] at h
      refine gb_f (fun q => c3 ((gc_le (gf1 es 215 17) e2 z2 z1).mp q)) ?_
      obtain ⟨q5, w4, h⟩ := fx_bd h
      refine gb_bind (gf_182 e2 es w4) ?_
      exact ih _ _ (ga_add e1 (gr q5.1)) _ _ (ga_add e2 kg_1) _ _ (rfl : _ = gx q5.2) _ h
def gm_184 (s : gx_S) : Option (Int × gx_S) :=
  gm_184_4 100000 0 0 s
theorem gf_184 {s : gx_S} {σ : fx_S} (es : σ = gx s) {q : Int × gx_S} (h : gm_184 s = some q) : fm_184 σ = some (Int32.ofInt q.1, gx q.2) := by
  unfold gm_184 at h
  unfold fm_184
  exact gf_184_4 100000 _ _ kg_0 _ _ kg_0 _ _ es _ h

/-! ZoneSharesModel.districtAt(I)I -/
def gm_186 (x1 : Int) (s : gx_S) : Option (Int × gx_S) :=
  if (-2147483648 ≤ x1 ∧ x1 ≤ 2147483647) then (
  if ¬ x1 = 8 then (
    if 0 ≤ (44 + x1) ∧ (44 + x1) < 340 then (
    some ((s.1 216 ((44 + x1)).toNat), s)) else none) else (
    some (4, s))) else none
theorem gf_186 {x1 : Int} {yx1 : Int32} (e1 : yx1 = Int32.ofInt x1) {s : gx_S} {σ : fx_S} (es : σ = gx s) {q : Int × gx_S} (h : gm_186 x1 s = some q) : fm_186 yx1 σ = some (Int32.ofInt q.1, gx q.2) := by
  unfold gm_186 at h
  unfold fm_186
  obtain ⟨z6, h⟩ := fx_gd h
  by_cases c7 : ¬ x1 = 8
  · rw [if_pos c7] at h
    refine gb_t ((gc_ne e1 kg_8 z6 (by decide)).mpr c7) ?_
    obtain ⟨z10, h⟩ := fx_gd h
    refine gb_bind (gl_ld es (ga_add kg_44 e1) ga_216 z10) ?_
    have h := Option.some.inj h
    subst h
    exact gret (gr (s.1 216 ((44 + x1)).toNat)) es
  · rw [if_neg c7] at h
    refine gb_f (fun q => c7 ((gc_ne e1 kg_8 z6 (by decide)).mp q)) ?_
    have h := Option.some.inj h
    subst h
    exact gret kg_4 es

/-! ZoneSharesModel.laysCoarse(I)V -/
def gm_187_91 (k_7 : Int → gx_S → Option (gx_S)) : Nat → Int → Int → gx_S → Option (gx_S)
  | 0, _, _, _ => none
  | n + 1, x2, x4, s =>
    if (-2147483648 ≤ x4 ∧ x4 ≤ 2147483647) then (
    if 4 < x4 then (
      k_7 (x2 + 1) s) else (
      (gm_160 x2 x4 s).bind fun q4 =>
      if 0 ≤ x4 ∧ x4 < 5 then (
      if 0 ≤ q4.1 ∧ q4.1 < 72 then (
      gm_187_91 k_7 n x2 (x4 + 1) (gw1 q4.2 222 (q4.1).toNat (q4.2.1 237 (x4).toNat))) else none) else none)) else none
theorem gf_187_91 {kf_7 : Int32 → fx_S → Option (fx_S)} {kg_7 : Int → gx_S → Option (gx_S)} (hk_7 : ∀ (x2 : Int) (yx2 : Int32) (e2 : yx2 = Int32.ofInt x2) (s : gx_S) (σ : fx_S) (es : σ = gx s) (q : gx_S), kg_7 x2 s = some q → kf_7 yx2 σ = some (gx q)) : ∀ (n : Nat) (x2 : Int) (yx2 : Int32) (e2 : yx2 = Int32.ofInt x2) (x4 : Int) (yx4 : Int32) (e4 : yx4 = Int32.ofInt x4) (s : gx_S) (σ : fx_S) (es : σ = gx s) (q : gx_S), gm_187_91 kg_7 n x2 x4 s = some q → fm_187_91 kf_7 n yx2 yx4 σ = some (gx q) := by
  intro n
  induction n with
  | zero =>
    intro x2 yx2 e2 x4 yx4 e4 s σ es q  h
    rw [gm_187_91] at h
    exact fx_no h
  | succ n ih =>
    intro x2 yx2 e2 x4 yx4 e4 s σ es q  h
    rw [gm_187_91] at h
    rw [fm_187_91]
    obtain ⟨z1, h⟩ := fx_gd h
    by_cases c2 : 4 < x4
    · rw [if_pos c2] at h
      refine gb_t ((gc_lt kg_4 e4 (by decide) z1).mpr c2) ?_
      exact hk_7 _ _ (ga_add e2 kg_1) _ _ es _ h
    · rw [if_neg c2] at h
      refine gb_f (fun q => c2 ((gc_lt kg_4 e4 (by decide) z1).mp q)) ?_
      obtain ⟨q4, w3, h⟩ := fx_bd h
      refine gb_bind (gf_160 e2 e4 es w3) ?_
      obtain ⟨z7, h⟩ := fx_gd h
      refine gb_bind (gl_ld (rfl : _ = gx q4.2) e4 ga_237 z7) ?_
      obtain ⟨z10, h⟩ := fx_gd h
      refine gb_bind (gl_st (rfl : _ = gx q4.2) (gr q4.1) (gr (q4.2.1 237 (x4).toNat)) ga_222 z10) ?_
      exact ih _ _ e2 _ _ (ga_add e4 kg_1) _ _ (rfl : _ = gx (gw1 q4.2 222 (q4.1).toNat (q4.2.1 237 (x4).toNat))) _ h
def gm_187_41 (k_7 : Int → gx_S → Option (gx_S)) : Nat → Int → Int → gx_S → Option (gx_S)
  | 0, _, _, _ => none
  | n + 1, x2, x4, s =>
    if (-2147483648 ≤ x4 ∧ x4 ≤ 2147483647) then (
    if 9 ≤ x4 then (
      gm_187_91 k_7 100000 x2 0 s) else (
      (gm_186 x4 s).bind fun q4 =>
      if 0 ≤ q4.1 ∧ q4.1 < 5 then (
      (gm_160 x2 x4 q4.2).bind fun q9 =>
      if 0 ≤ q9.1 ∧ q9.1 < 72 then (
      (gm_160 x2 x4 (gw1 q9.2 237 (q4.1).toNat ((q4.2.1 237 (q4.1).toNat) + (q9.2.1 222 (q9.1).toNat)))).bind fun q16 =>
      if 0 ≤ q16.1 ∧ q16.1 < 72 then (
      gm_187_41 k_7 n x2 (x4 + 1) (gw1 q16.2 222 (q16.1).toNat 0)) else none) else none) else none)) else none
theorem gf_187_41 {kf_7 : Int32 → fx_S → Option (fx_S)} {kg_7 : Int → gx_S → Option (gx_S)} (hk_7 : ∀ (x2 : Int) (yx2 : Int32) (e2 : yx2 = Int32.ofInt x2) (s : gx_S) (σ : fx_S) (es : σ = gx s) (q : gx_S), kg_7 x2 s = some q → kf_7 yx2 σ = some (gx q)) : ∀ (n : Nat) (x2 : Int) (yx2 : Int32) (e2 : yx2 = Int32.ofInt x2) (x4 : Int) (yx4 : Int32) (e4 : yx4 = Int32.ofInt x4) (s : gx_S) (σ : fx_S) (es : σ = gx s) (q : gx_S), gm_187_41 kg_7 n x2 x4 s = some q → fm_187_41 kf_7 n yx2 yx4 σ = some (gx q) := by
  intro n
  induction n with
  | zero =>
    intro x2 yx2 e2 x4 yx4 e4 s σ es q  h
    rw [gm_187_41] at h
    exact fx_no h
  | succ n ih =>
    intro x2 yx2 e2 x4 yx4 e4 s σ es q  h
    rw [gm_187_41] at h
    rw [fm_187_41]
    obtain ⟨z1, h⟩ := fx_gd h
    by_cases c2 : 9 ≤ x4
    · rw [if_pos c2] at h
      refine gb_t ((gc_le kg_9 e4 (by decide) z1).mpr c2) ?_
      exact gf_187_91 hk_7 100000 _ _ e2 _ _ kg_0 _ _ es _ h
    · rw [if_neg c2] at h
      refine gb_f (fun q => c2 ((gc_le kg_9 e4 (by decide) z1).mp q)) ?_
      obtain ⟨q4, w3, h⟩ := fx_bd h
      refine gb_bind (gf_186 e4 es w3) ?_
      obtain ⟨z7, h⟩ := fx_gd h
      refine gb_bind (gl_ld (rfl : _ = gx q4.2) (gr q4.1) ga_237 z7) ?_
      obtain ⟨q9, w8, h⟩ := fx_bd h
      refine gb_bind (gf_160 e2 e4 (rfl : _ = gx q4.2) w8) ?_
      obtain ⟨z12, h⟩ := fx_gd h
      refine gb_bind (gl_ld (rfl : _ = gx q9.2) (gr q9.1) ga_222 z12) ?_
      refine gb_bind (gl_st (rfl : _ = gx q9.2) (gr q4.1) (ga_add (gr (q4.2.1 237 (q4.1).toNat)) (gr (q9.2.1 222 (q9.1).toNat))) ga_237 z7) ?_
      obtain ⟨q16, w15, h⟩ := fx_bd h
      refine gb_bind (gf_160 e2 e4 (rfl : _ = gx (gw1 q9.2 237 (q4.1).toNat ((q4.2.1 237 (q4.1).toNat) + (q9.2.1 222 (q9.1).toNat)))) w15) ?_
      obtain ⟨z19, h⟩ := fx_gd h
      refine gb_bind (gl_st (rfl : _ = gx q16.2) (gr q16.1) kg_0 ga_222 z19) ?_
      exact ih _ _ e2 _ _ (ga_add e4 kg_1) _ _ (rfl : _ = gx (gw1 q16.2 222 (q16.1).toNat 0)) _ h
def gm_187_21 (k_7 : Int → gx_S → Option (gx_S)) : Nat → Int → Int → gx_S → Option (gx_S)
  | 0, _, _, _ => none
  | n + 1, x2, x4, s =>
    if (-2147483648 ≤ x4 ∧ x4 ≤ 2147483647) then (
    if 4 < x4 then (
      gm_187_41 k_7 100000 x2 0 s) else (
      if 0 ≤ x4 ∧ x4 < 5 then (
      gm_187_21 k_7 n x2 (x4 + 1) (gw1 s 237 (x4).toNat 0)) else none)) else none
theorem gf_187_21 {kf_7 : Int32 → fx_S → Option (fx_S)} {kg_7 : Int → gx_S → Option (gx_S)} (hk_7 : ∀ (x2 : Int) (yx2 : Int32) (e2 : yx2 = Int32.ofInt x2) (s : gx_S) (σ : fx_S) (es : σ = gx s) (q : gx_S), kg_7 x2 s = some q → kf_7 yx2 σ = some (gx q)) : ∀ (n : Nat) (x2 : Int) (yx2 : Int32) (e2 : yx2 = Int32.ofInt x2) (x4 : Int) (yx4 : Int32) (e4 : yx4 = Int32.ofInt x4) (s : gx_S) (σ : fx_S) (es : σ = gx s) (q : gx_S), gm_187_21 kg_7 n x2 x4 s = some q → fm_187_21 kf_7 n yx2 yx4 σ = some (gx q) := by
  intro n
  induction n with
  | zero =>
    intro x2 yx2 e2 x4 yx4 e4 s σ es q  h
    rw [gm_187_21] at h
    exact fx_no h
  | succ n ih =>
    intro x2 yx2 e2 x4 yx4 e4 s σ es q  h
    rw [gm_187_21] at h
    rw [fm_187_21]
    obtain ⟨z1, h⟩ := fx_gd h
    by_cases c2 : 4 < x4
    · rw [if_pos c2] at h
      refine gb_t ((gc_lt kg_4 e4 (by decide) z1).mpr c2) ?_
      exact gf_187_41 hk_7 100000 _ _ e2 _ _ kg_0 _ _ es _ h
    · rw [if_neg c2] at h
      refine gb_f (fun q => c2 ((gc_lt kg_4 e4 (by decide) z1).mp q)) ?_
      obtain ⟨z5, h⟩ := fx_gd h
      refine gb_bind (gl_st es e4 kg_0 ga_237 z5) ?_
      exact ih _ _ e2 _ _ (ga_add e4 kg_1) _ _ (rfl : _ = gx (gw1 s 237 (x4).toNat 0)) _ h
def gm_187_7 : Nat → Int → gx_S → Option (gx_S)
  | 0, _, _ => none
  | n + 1, x2, s =>
    if (-2147483648 ≤ x2 ∧ x2 ≤ 2147483647) then (
    if 8 ≤ x2 then (
      some (gw1 s 215 18 5)) else (
      gm_187_21 (gm_187_7 n) 100000 x2 0 s)) else none
theorem gf_187_7 : ∀ (n : Nat) (x2 : Int) (yx2 : Int32) (e2 : yx2 = Int32.ofInt x2) (s : gx_S) (σ : fx_S) (es : σ = gx s) (q : gx_S), gm_187_7 n x2 s = some q → fm_187_7 n yx2 σ = some (gx q) := by
  intro n
  induction n with
  | zero =>
    intro x2 yx2 e2 s σ es q  h
    rw [gm_187_7] at h
    exact fx_no h
  | succ n ih =>
    intro x2 yx2 e2 s σ es q  h
    rw [gm_187_7] at h
    rw [fm_187_7]
    obtain ⟨z1, h⟩ := fx_gd h
    by_cases c2 : 8 ≤ x2
    · rw [if_pos c2] at h
      refine gb_t ((gc_le kg_8 e2 (by decide) z1).mpr c2) ?_
      have h := Option.some.inj h
      subst h
      exact gretv (gx_w1 es kg_5)
    · rw [if_neg c2] at h
      refine gb_f (fun q => c2 ((gc_le kg_8 e2 (by decide) z1).mp q)) ?_
      exact gf_187_21 ih 100000 _ _ e2 _ _ kg_0 _ _ es _ h
def gm_187 (x1 : Int) (s : gx_S) : Option (gx_S) :=
  (gm_181 x1 s).bind fun q42 =>
  gm_187_7 100000 0 q42
theorem gf_187 {x1 : Int} {yx1 : Int32} (e1 : yx1 = Int32.ofInt x1) {s : gx_S} {σ : fx_S} (es : σ = gx s) {q : gx_S} (h : gm_187 x1 s = some q) : fm_187 yx1 σ = some (gx q) := by
  unfold gm_187 at h
  unfold fm_187
  obtain ⟨q42, w41, h⟩ := fx_bd h
  refine gb_bind (gf_181 e1 es w41) ?_
  exact gf_187_7 100000 _ _ kg_0 _ _ (rfl : _ = gx q42) _ h

/-! ZoneSharesModel.laysWay(IIZ)V -/
def gm_190_43 (k_3 : Int → Int → Int → Int → gx_S → Option (gx_S)) (x1 : Int) (x2 : Int) (x3 : Int) (x4 : Int) (s1 : Int) (s2 : Int) (s : gx_S) : Option (gx_S) :=
  if 0 ≤ s1 ∧ s1 < 72 then (
  k_3 x1 x2 x3 (x4 + 1) (gw1 s 222 (s1).toNat s2)) else none
theorem gf_190_43 {kf_3 : Int32 → Int32 → Int32 → Int32 → fx_S → Option (fx_S)} {kg_3 : Int → Int → Int → Int → gx_S → Option (gx_S)} (hk_3 : ∀ (x1 : Int) (yx1 : Int32) (e1 : yx1 = Int32.ofInt x1) (x2 : Int) (yx2 : Int32) (e2 : yx2 = Int32.ofInt x2) (x3 : Int) (yx3 : Int32) (e3 : yx3 = Int32.ofInt x3) (x4 : Int) (yx4 : Int32) (e4 : yx4 = Int32.ofInt x4) (s : gx_S) (σ : fx_S) (es : σ = gx s) (q : gx_S), kg_3 x1 x2 x3 x4 s = some q → kf_3 yx1 yx2 yx3 yx4 σ = some (gx q)) (x1 : Int) (yx1 : Int32) (e1 : yx1 = Int32.ofInt x1) (x2 : Int) (yx2 : Int32) (e2 : yx2 = Int32.ofInt x2) (x3 : Int) (yx3 : Int32) (e3 : yx3 = Int32.ofInt x3) (x4 : Int) (yx4 : Int32) (e4 : yx4 = Int32.ofInt x4) (s1 : Int) (ys1 : Int32) (es1 : ys1 = Int32.ofInt s1) (s2 : Int) (ys2 : Int32) (es2 : ys2 = Int32.ofInt s2) (s : gx_S) (σ : fx_S) (es : σ = gx s) (q : gx_S) (h : gm_190_43 kg_3 x1 x2 x3 x4 s1 s2 s = some q) : fm_190_43 kf_3 yx1 yx2 yx3 yx4 ys1 ys2 σ = some (gx q) := by
  unfold gm_190_43 at h
  unfold fm_190_43
  obtain ⟨z3, h⟩ := fx_gd h
  refine gb_bind (gl_st es es1 es2 ga_222 z3) ?_
  exact hk_3 _ _ e1 _ _ e2 _ _ e3 _ _ (ga_add e4 kg_1) _ _ (rfl : _ = gx (gw1 s 222 (s1).toNat s2)) _ h
def gm_190_3 : Nat → Int → Int → Int → Int → gx_S → Option (gx_S)
  | 0, _, _, _, _, _ => none
  | n + 1, x1, x2, x3, x4, s =>
    if (-2147483648 ≤ x4 ∧ x4 ≤ 2147483647) then (
    if 8 ≤ x4 then (
      some s) else (
      (gm_160 x2 x4 s).bind fun q4 =>
      (gm_186 x4 q4.2).bind fun q6 =>
      if (-2147483648 ≤ q6.1 ∧ q6.1 ≤ 2147483647) then (
      if (-2147483648 ≤ x2 ∧ x2 ≤ 2147483647) then (
      if ¬ q6.1 = x2 then (
        gm_190_43 (gm_190_3 n) x1 x2 x3 x4 q4.1 0 q6.2) else (
        (gm_157 x1 (-1) x4 x3 q6.2).bind fun q11 =>
        gm_190_43 (gm_190_3 n) x1 x2 x3 x4 q4.1 q11.1 q11.2)) else none) else none)) else none
theorem gf_190_3 : ∀ (n : Nat) (x1 : Int) (yx1 : Int32) (e1 : yx1 = Int32.ofInt x1) (x2 : Int) (yx2 : Int32) (e2 : yx2 = Int32.ofInt x2) (x3 : Int) (yx3 : Int32) (e3 : yx3 = Int32.ofInt x3) (x4 : Int) (yx4 : Int32) (e4 : yx4 = Int32.ofInt x4) (s : gx_S) (σ : fx_S) (es : σ = gx s) (q : gx_S), gm_190_3 n x1 x2 x3 x4 s = some q → fm_190_3 n yx1 yx2 yx3 yx4 σ = some (gx q) := by
  intro n
  induction n with
  | zero =>
    intro x1 yx1 e1 x2 yx2 e2 x3 yx3 e3 x4 yx4 e4 s σ es q  h
    rw [gm_190_3] at h
    exact fx_no h
  | succ n ih =>
    intro x1 yx1 e1 x2 yx2 e2 x3 yx3 e3 x4 yx4 e4 s σ es q  h
    rw [gm_190_3] at h
    rw [fm_190_3]
    obtain ⟨z1, h⟩ := fx_gd h
    by_cases c2 : 8 ≤ x4
    · rw [if_pos c2] at h
      refine gb_t ((gc_le kg_8 e4 (by decide) z1).mpr c2) ?_
      have h := Option.some.inj h
      subst h
      exact gretv es
    · rw [if_neg c2] at h
      refine gb_f (fun q => c2 ((gc_le kg_8 e4 (by decide) z1).mp q)) ?_
      obtain ⟨q4, w3, h⟩ := fx_bd h
      refine gb_bind (gf_160 e2 e4 es w3) ?_
      obtain ⟨q6, w5, h⟩ := fx_bd h
      refine gb_bind (gf_186 e4 (rfl : _ = gx q4.2) w5) ?_
      obtain ⟨z7, h⟩ := fx_gd h
      obtain ⟨z8, h⟩ := fx_gd h
      by_cases c9 : ¬ q6.1 = x2
      · rw [if_pos c9] at h
        refine gb_t ((gc_ne (gr q6.1) e2 z7 z8).mpr c9) ?_
        exact gf_190_43 ih _ _ e1 _ _ e2 _ _ e3 _ _ e4 _ _ (gr q4.1) _ _ kg_0 _ _ (rfl : _ = gx q6.2) _ h
      · rw [if_neg c9] at h
        refine gb_f (fun q => c9 ((gc_ne (gr q6.1) e2 z7 z8).mp q)) ?_
        obtain ⟨q11, w10, h⟩ := fx_bd h
        refine gb_bind (gf_157 e1 kg_m1 e4 e3 (rfl : _ = gx q6.2) w10) ?_
        exact gf_190_43 ih _ _ e1 _ _ e2 _ _ e3 _ _ e4 _ _ (gr q4.1) _ _ (gr q11.1) _ _ (rfl : _ = gx q11.2) _ h
def gm_190 (x1 : Int) (x2 : Int) (x3 : Int) (s : gx_S) : Option (gx_S) :=
  gm_190_3 100000 x1 x2 x3 0 s
theorem gf_190 {x1 : Int} {yx1 : Int32} (e1 : yx1 = Int32.ofInt x1) {x2 : Int} {yx2 : Int32} (e2 : yx2 = Int32.ofInt x2) {x3 : Int} {yx3 : Int32} (e3 : yx3 = Int32.ofInt x3) {s : gx_S} {σ : fx_S} (es : σ = gx s) {q : gx_S} (h : gm_190 x1 x2 x3 s = some q) : fm_190 yx1 yx2 yx3 σ = some (gx q) := by
  unfold gm_190 at h
  unfold fm_190
  exact gf_190_3 100000 _ _ e1 _ _ e2 _ _ e3 _ _ kg_0 _ _ es _ h

/-! ZoneSharesModel.lowest(JJI)J -/
def gm_194 (x0 : Int) (x2 : Int) (x4 : Int) (s : gx_S) : Option (Int × gx_S) :=
  (gm_164 x0 x2 s).bind fun q10 =>
  if (-2147483648 ≤ x4 ∧ x4 ≤ 2147483647) then (
  if ¬ x4 = 0 then (
    if 0 ≤ x2 ∧ x2 ≤ 9223372036854775807 ∧ 0 < q10.1 ∧ q10.1 ≤ 9223372036854775807 then (
    some ((x2 / q10.1), q10.2)) else none) else (
    if 0 ≤ x0 ∧ x0 ≤ 9223372036854775807 ∧ 0 < q10.1 ∧ q10.1 ≤ 9223372036854775807 then (
    some ((x0 / q10.1), q10.2)) else none)) else none
theorem gf_194 {x0 : Int} {yx0 : Int64} (e0 : yx0 = Int64.ofInt x0) {x2 : Int} {yx2 : Int64} (e2 : yx2 = Int64.ofInt x2) {x4 : Int} {yx4 : Int32} (e4 : yx4 = Int32.ofInt x4) {s : gx_S} {σ : fx_S} (es : σ = gx s) {q : Int × gx_S} (h : gm_194 x0 x2 x4 s = some q) : fm_194 yx0 yx2 yx4 σ = some (Int64.ofInt q.1, gx q.2) := by
  unfold gm_194 at h
  unfold fm_194
  obtain ⟨q10, w9, h⟩ := fx_bd h
  refine gb_bind (gf_164 e0 e2 es w9) ?_
  obtain ⟨z11, h⟩ := fx_gd h
  by_cases c12 : ¬ x4 = 0
  · rw [if_pos c12] at h
    refine gb_t ((gc_ne e4 kg_0 z11 (by decide)).mpr c12) ?_
    obtain ⟨z13, h⟩ := fx_gd h
    refine gb_t (gcl_nz (gr2 q10.1) z13) ?_
    have h := Option.some.inj h
    subst h
    exact gretl (gal_div e2 (gr2 q10.1) z13) (rfl : _ = gx q10.2)
  · rw [if_neg c12] at h
    refine gb_f (fun q => c12 ((gc_ne e4 kg_0 z11 (by decide)).mp q)) ?_
    obtain ⟨z15, h⟩ := fx_gd h
    refine gb_t (gcl_nz (gr2 q10.1) z15) ?_
    have h := Option.some.inj h
    subst h
    exact gretl (gal_div e0 (gr2 q10.1) z15) (rfl : _ = gx q10.2)

/-! ZoneSharesModel.share(IIII)I -/
def gm_195 (x1 : Int) (x2 : Int) (x3 : Int) (x4 : Int) (s : gx_S) : Option (Int × gx_S) :=
  (gm_150 s).bind fun q33 =>
  if (gb q33.1) = 0 then (
    some ((-1), q33.2)) else (
    (gm_148 x1 q33.2).bind fun q36 =>
    if (gb q36.1) = 0 then (
      some ((-1), q36.2)) else (
      if (-2147483648 ≤ x2 ∧ x2 ≤ 2147483647) then (
      (gm_130 x2 0 7 q36.2).bind fun q40 =>
      if (gb q40.1) = 0 then (
        some ((-1), q40.2)) else (
        (gm_153 0 x2 q40.2).bind fun q43 =>
        if (gb q43.1) = 0 then (
          some ((-1), q43.2)) else (
          if (-2147483648 ≤ x3 ∧ x3 ≤ 2147483647) then (
          (gm_130 x3 0 8 q43.2).bind fun q47 =>
          if (gb q47.1) = 0 then (
            some ((-1), q47.2)) else (
            if (-2147483648 ≤ x4 ∧ x4 ≤ 2147483647) then (
            (gm_130 x4 0 1 q47.2).bind fun q51 =>
            if ¬ (gb q51.1) = 0 then (
              (gm_180 x1 x2 q51.2).bind fun q54 =>
              (gm_157 x1 x2 x3 (gb q54.1) q54.2).bind fun q56 =>
              if (-2147483648 ≤ q56.1 ∧ q56.1 ≤ 2147483647) then (
              (gm_157 x1 x2 (-1) (gb q54.1) q56.2).bind fun q59 =>
              if (-2147483648 ≤ q59.1 ∧ q59.1 ≤ 2147483647) then (
              (gm_194 q56.1 q59.1 x4 q59.2).bind fun q62 =>
              some (q62.1, q62.2)) else none) else none) else (
              some ((-1), q51.2))) else none)) else none))) else none))
theorem gf_195 {x1 : Int} {yx1 : Int32} (e1 : yx1 = Int32.ofInt x1) {x2 : Int} {yx2 : Int32} (e2 : yx2 = Int32.ofInt x2) {x3 : Int} {yx3 : Int32} (e3 : yx3 = Int32.ofInt x3) {x4 : Int} {yx4 : Int32} (e4 : yx4 = Int32.ofInt x4) {s : gx_S} {σ : fx_S} (es : σ = gx s) {q : Int × gx_S} (h : gm_195 x1 x2 x3 x4 s = some q) : fm_195 yx1 yx2 yx3 yx4 σ = some (Int32.ofInt q.1, gx q.2) := by
  unfold gm_195 at h
  unfold fm_195
  obtain ⟨q33, w32, h⟩ := fx_bd h
  refine gb_bind (gf_150 es w32) ?_
  by_cases c34 : (gb q33.1) = 0
  · rw [if_pos c34] at h
    refine gb_t ((gc_eq (gb_b q33.1) kg_0 (gb_r _) (by decide)).mpr c34) ?_
    have h := Option.some.inj h
    subst h
    exact gret kg_m1 (rfl : _ = gx q33.2)
  · rw [if_neg c34] at h
    refine gb_f (fun q => c34 ((gc_eq (gb_b q33.1) kg_0 (gb_r _) (by decide)).mp q)) ?_
    obtain ⟨q36, w35, h⟩ := fx_bd h
    refine gb_bind (gf_148 e1 (rfl : _ = gx q33.2) w35) ?_
    by_cases c37 : (gb q36.1) = 0
    · rw [if_pos c37] at h
      refine gb_t ((gc_eq (gb_b q36.1) kg_0 (gb_r _) (by decide)).mpr c37) ?_
      have h := Option.some.inj h
      subst h
      exact gret kg_m1 (rfl : _ = gx q36.2)
    · rw [if_neg c37] at h
      refine gb_f (fun q => c37 ((gc_eq (gb_b q36.1) kg_0 (gb_r _) (by decide)).mp q)) ?_
      obtain ⟨z38, h⟩ := fx_gd h
      obtain ⟨q40, w39, h⟩ := fx_bd h
      refine gb_bind (gf_130 (ga_i2l e2 z38) kgl_0 kgl_7 (rfl : _ = gx q36.2) w39) ?_
      by_cases c41 : (gb q40.1) = 0
      · rw [if_pos c41] at h
        refine gb_t ((gc_eq (gb_b q40.1) kg_0 (gb_r _) (by decide)).mpr c41) ?_
        have h := Option.some.inj h
        subst h
        exact gret kg_m1 (rfl : _ = gx q40.2)
      · rw [if_neg c41] at h
        refine gb_f (fun q => c41 ((gc_eq (gb_b q40.1) kg_0 (gb_r _) (by decide)).mp q)) ?_
        obtain ⟨q43, w42, h⟩ := fx_bd h
        refine gb_bind (gf_153 kg_0 e2 (rfl : _ = gx q40.2) w42) ?_
        by_cases c44 : (gb q43.1) = 0
        · rw [if_pos c44] at h
          refine gb_t ((gc_eq (gb_b q43.1) kg_0 (gb_r _) (by decide)).mpr c44) ?_
          have h := Option.some.inj h
          subst h
          exact gret kg_m1 (rfl : _ = gx q43.2)
        · rw [if_neg c44] at h
          refine gb_f (fun q => c44 ((gc_eq (gb_b q43.1) kg_0 (gb_r _) (by decide)).mp q)) ?_
          obtain ⟨z45, h⟩ := fx_gd h
          obtain ⟨q47, w46, h⟩ := fx_bd h
          refine gb_bind (gf_130 (ga_i2l e3 z45) kgl_0 kgl_8 (rfl : _ = gx q43.2) w46) ?_
          by_cases c48 : (gb q47.1) = 0
          · rw [if_pos c48] at h
            refine gb_t ((gc_eq (gb_b q47.1) kg_0 (gb_r _) (by decide)).mpr c48) ?_
            have h := Option.some.inj h
            subst h
            exact gret kg_m1 (rfl : _ = gx q47.2)
          · rw [if_neg c48] at h
            refine gb_f (fun q => c48 ((gc_eq (gb_b q47.1) kg_0 (gb_r _) (by decide)).mp q)) ?_
            obtain ⟨z49, h⟩ := fx_gd h
            obtain ⟨q51, w50, h⟩ := fx_bd h
            refine gb_bind (gf_130 (ga_i2l e4 z49) kgl_0 kgl_1 (rfl : _ = gx q47.2) w50) ?_
            by_cases c52 : ¬ (gb q51.1) = 0
            · rw [if_pos c52] at h
              refine gb_t ((gc_ne (gb_b q51.1) kg_0 (gb_r _) (by decide)).mpr c52) ?_
              obtain ⟨q54, w53, h⟩ := fx_bd h
              refine gb_bind (gf_180 e1 e2 (rfl : _ = gx q51.2) w53) ?_
              obtain ⟨q56, w55, h⟩ := fx_bd h
              refine gb_bind (gf_157 e1 e2 e3 (gb_b q54.1) (rfl : _ = gx q54.2) w55) ?_
              obtain ⟨z57, h⟩ := fx_gd h
              obtain ⟨q59, w58, h⟩ := fx_bd h
              refine gb_bind (gf_157 e1 e2 kg_m1 (gb_b q54.1) (rfl : _ = gx q56.2) w58) ?_
              obtain ⟨z60, h⟩ := fx_gd h
              obtain ⟨q62, w61, h⟩ := fx_bd h
              refine gb_bind (gf_194 (ga_i2l (gr q56.1) z57) (ga_i2l (gr q59.1) z60) e4 (rfl : _ = gx q59.2) w61) ?_
              have h := Option.some.inj h
              subst h
              exact gret (ga_l2i (gr2 q62.1)) (rfl : _ = gx q62.2)
            · rw [if_neg c52] at h
              refine gb_f (fun q => c52 ((gc_ne (gb_b q51.1) kg_0 (gb_r _) (by decide)).mp q)) ?_
              have h := Option.some.inj h
              subst h
              exact gret kg_m1 (rfl : _ = gx q51.2)

/-! ZoneSharesModel.exact(III)J -/
def gm_196_38 (s : gx_S) : Option (Int × gx_S) :=
  some ((-1), s)
theorem gf_196_38 (s : gx_S) (σ : fx_S) (es : σ = gx s) (q : Int × gx_S) (h : gm_196_38 s = some q) : fm_196_38 σ = some (Int64.ofInt q.1, gx q.2) := by
  unfold gm_196_38 at h
  unfold fm_196_38
  have h := Option.some.inj h
  subst h
  exact gretl kgl_m1 es
def gm_196_125 (k_63 : Int → Int → Int → Int → gx_S → Option (Int × gx_S)) (x2 : Int) (x3 : Int) (x4 : Int) (x6 : Int) (s : gx_S) : Option (Int × gx_S) :=
  k_63 x2 x3 x4 (x6 + 1) s
theorem gf_196_125 {kf_63 : Int32 → Int32 → Int64 → Int32 → fx_S → Option (Int64 × fx_S)} {kg_63 : Int → Int → Int → Int → gx_S → Option (Int × gx_S)} (hk_63 : ∀ (x2 : Int) (yx2 : Int32) (e2 : yx2 = Int32.ofInt x2) (x3 : Int) (yx3 : Int32) (e3 : yx3 = Int32.ofInt x3) (x4 : Int) (yx4 : Int64) (e4 : yx4 = Int64.ofInt x4) (x6 : Int) (yx6 : Int32) (e6 : yx6 = Int32.ofInt x6) (s : gx_S) (σ : fx_S) (es : σ = gx s) (q : Int × gx_S), kg_63 x2 x3 x4 x6 s = some q → kf_63 yx2 yx3 yx4 yx6 σ = some (Int64.ofInt q.1, gx q.2)) (x2 : Int) (yx2 : Int32) (e2 : yx2 = Int32.ofInt x2) (x3 : Int) (yx3 : Int32) (e3 : yx3 = Int32.ofInt x3) (x4 : Int) (yx4 : Int64) (e4 : yx4 = Int64.ofInt x4) (x6 : Int) (yx6 : Int32) (e6 : yx6 = Int32.ofInt x6) (s : gx_S) (σ : fx_S) (es : σ = gx s) (q : Int × gx_S) (h : gm_196_125 kg_63 x2 x3 x4 x6 s = some q) : fm_196_125 kf_63 yx2 yx3 yx4 yx6 σ = some (Int64.ofInt q.1, gx q.2) := by
  unfold gm_196_125 at h
  unfold fm_196_125
  exact hk_63 _ _ e2 _ _ e3 _ _ e4 _ _ (ga_add e6 kg_1) _ _ es _ h
def gm_196_63 : Nat → Int → Int → Int → Int → gx_S → Option (Int × gx_S)
  | 0, _, _, _, _, _ => none
  | n + 1, x2, x3, x4, x6, s =>
    if (-2147483648 ≤ x6 ∧ x6 ≤ 2147483647) then (
    if 8 ≤ x6 then (
      if 0 ≤ (s.2 215 29) ∧ (s.2 215 29) ≤ 9223372036854775807 ∧ 0 < (s.2 215 30) ∧ (s.2 215 30) ≤ 9223372036854775807 then (
      if (-2147483648 ≤ x3 ∧ x3 ≤ 2147483647) then (
      if ¬ x3 = 0 then (
        (gm_194 ((s.2 215 29) % (s.2 215 30)) (s.2 215 30) (x3 - 1) s).bind fun q9 =>
        some (q9.1, q9.2)) else (
        some ((x4 + ((s.2 215 29) / (s.2 215 30))), s))) else none) else none) else (
      (gm_161 x6 s).bind fun q11 =>
      if (-2147483648 ≤ q11.1 ∧ q11.1 ≤ 2147483647) then (
      if q11.1 ≤ 0 then (
        gm_196_125 (gm_196_63 n) x2 x3 x4 x6 q11.2) else (
        (gm_162 x6 q11.2).bind fun q15 =>
        (gm_160 x6 x2 q15.2).bind fun q17 =>
        if 0 ≤ q17.1 ∧ q17.1 < 72 then (
        (gm_160 x6 x2 q17.2).bind fun q22 =>
        if 0 ≤ q22.1 ∧ q22.1 < 72 then (
        if 0 ≤ x6 ∧ x6 < 8 then (
        if (-2147483648 ≤ (q22.2.1 223 (x6).toNat) ∧ (q22.2.1 223 (x6).toNat) ≤ 2147483647) then (
        (gm_165 (q22.2.2 225 (q22.1).toNat) (q22.2.1 223 (x6).toNat) q22.2).bind fun q31 =>
        gm_196_125 (gm_196_63 n) x2 x3 (x4 + (q17.2.2 224 (q17.1).toNat)) x6 q31) else none) else none) else none) else none)) else none)) else none
theorem gf_196_63 : ∀ (n : Nat) (x2 : Int) (yx2 : Int32) (e2 : yx2 = Int32.ofInt x2) (x3 : Int) (yx3 : Int32) (e3 : yx3 = Int32.ofInt x3) (x4 : Int) (yx4 : Int64) (e4 : yx4 = Int64.ofInt x4) (x6 : Int) (yx6 : Int32) (e6 : yx6 = Int32.ofInt x6) (s : gx_S) (σ : fx_S) (es : σ = gx s) (q : Int × gx_S), gm_196_63 n x2 x3 x4 x6 s = some q → fm_196_63 n yx2 yx3 yx4 yx6 σ = some (Int64.ofInt q.1, gx q.2) := by
  intro n
  induction n with
  | zero =>
    intro x2 yx2 e2 x3 yx3 e3 x4 yx4 e4 x6 yx6 e6 s σ es q  h
    rw [gm_196_63] at h
    exact fx_no h
  | succ n ih =>
    intro x2 yx2 e2 x3 yx3 e3 x4 yx4 e4 x6 yx6 e6 s σ es q  h
    rw [gm_196_63] at h
    rw [fm_196_63]
    obtain ⟨z1, h⟩ := fx_gd h
    by_cases c2 : 8 ≤ x6
    · rw [if_pos c2] at h
      refine gb_t ((gc_le kg_8 e6 (by decide) z1).mpr c2) ?_
      obtain ⟨z3, h⟩ := fx_gd h
      refine gb_t (gcl_nz (gf2 es 215 30) z3) ?_
      obtain ⟨z5, h⟩ := fx_gd h
      by_cases c6 : ¬ x3 = 0
      · rw [if_pos c6] at h
        refine gb_t ((gc_ne e3 kg_0 z5 (by decide)).mpr c6) ?_
        refine gb_t (gcl_nz (gf2 es 215 30) z3) ?_
        obtain ⟨q9, w8, h⟩ := fx_bd h
        refine gb_bind (gf_194 (gal_rem (gf2 es 215 29) (gf2 es 215 30) z3) (gf2 es 215 30) (ga_sub e3 kg_1) es w8) ?_
        have h := Option.some.inj h
        subst h
        exact gretl (gr2 q9.1) (rfl : _ = gx q9.2)
      · rw [if_neg c6] at h
        refine gb_f (fun q => c6 ((gc_ne e3 kg_0 z5 (by decide)).mp q)) ?_
        have h := Option.some.inj h
        subst h
        exact gretl (gal_add e4 (gal_div (gf2 es 215 29) (gf2 es 215 30) z3)) es
    · rw [if_neg c2] at h
      refine gb_f (fun q => c2 ((gc_le kg_8 e6 (by decide) z1).mp q)) ?_
      obtain ⟨q11, w10, h⟩ := fx_bd h
      refine gb_bind (gf_161 e6 es w10) ?_
      obtain ⟨z12, h⟩ := fx_gd h
      by_cases c13 : q11.1 ≤ 0
      · rw [if_pos c13] at h
        refine gb_t ((gc_le (gr q11.1) kg_0 z12 (by decide)).mpr c13) ?_
        exact gf_196_125 ih _ _ e2 _ _ e3 _ _ e4 _ _ e6 _ _ (rfl : _ = gx q11.2) _ h
      · rw [if_neg c13] at h
        refine gb_f (fun q => c13 ((gc_le (gr q11.1) kg_0 z12 (by decide)).mp q)) ?_
        obtain ⟨q15, w14, h⟩ := fx_bd h
        refine gb_bind (gf_162 e6 (rfl : _ = gx q11.2) w14) ?_
        obtain ⟨q17, w16, h⟩ := fx_bd h
        refine gb_bind (gf_160 e6 e2 (rfl : _ = gx q15.2) w16) ?_
        obtain ⟨z20, h⟩ := fx_gd h
        refine gb_bind (gl_ldl (rfl : _ = gx q17.2) (gr q17.1) ga_224 z20) ?_
        obtain ⟨q22, w21, h⟩ := fx_bd h
        refine gb_bind (gf_160 e6 e2 (rfl : _ = gx q17.2) w21) ?_
        obtain ⟨z25, h⟩ := fx_gd h
        refine gb_bind (gl_ldl (rfl : _ = gx q22.2) (gr q22.1) ga_225 z25) ?_
        obtain ⟨z28, h⟩ := fx_gd h
        refine gb_bind (gl_ld (rfl : _ = gx q22.2) e6 ga_223 z28) ?_
        obtain ⟨z29, h⟩ := fx_gd h
        obtain ⟨q31, w30, h⟩ := fx_bd h
        refine gb_bind (gf_165 (gr2 (q22.2.2 225 (q22.1).toNat)) (ga_i2l (gr (q22.2.1 223 (x6).toNat)) z29) (rfl : _ = gx q22.2) w30) ?_
        exact gf_196_125 ih _ _ e2 _ _ e3 _ _ (gal_add e4 (gr2 (q17.2.2 224 (q17.1).toNat))) _ _ e6 _ _ (rfl : _ = gx q31) _ h
def gm_196 (x1 : Int) (x2 : Int) (x3 : Int) (s : gx_S) : Option (Int × gx_S) :=
  (gm_150 s).bind fun q49 =>
  if (gb q49.1) = 0 then (
    gm_196_38 q49.2) else (
    (gm_148 x1 q49.2).bind fun q52 =>
    if (gb q52.1) = 0 then (
      gm_196_38 q52.2) else (
      if (-2147483648 ≤ x2 ∧ x2 ≤ 2147483647) then (
      (gm_130 x2 0 8 q52.2).bind fun q56 =>
      if (gb q56.1) = 0 then (
        gm_196_38 q56.2) else (
        if (-2147483648 ≤ x3 ∧ x3 ≤ 2147483647) then (
        (gm_130 x3 0 2 q56.2).bind fun q60 =>
        if ¬ (gb q60.1) = 0 then (
          (gm_181 x1 q60.2).bind fun q63 =>
          gm_196_63 100000 x2 x3 0 0 (gw2 (gw2 q63 215 29 0) 215 30 1)) else (
          gm_196_38 q60.2)) else none)) else none))
theorem gf_196 {x1 : Int} {yx1 : Int32} (e1 : yx1 = Int32.ofInt x1) {x2 : Int} {yx2 : Int32} (e2 : yx2 = Int32.ofInt x2) {x3 : Int} {yx3 : Int32} (e3 : yx3 = Int32.ofInt x3) {s : gx_S} {σ : fx_S} (es : σ = gx s) {q : Int × gx_S} (h : gm_196 x1 x2 x3 s = some q) : fm_196 yx1 yx2 yx3 σ = some (Int64.ofInt q.1, gx q.2) := by
  unfold gm_196 at h
  unfold fm_196
  obtain ⟨q49, w48, h⟩ := fx_bd h
  refine gb_bind (gf_150 es w48) ?_
  by_cases c50 : (gb q49.1) = 0
  · rw [if_pos c50] at h
    refine gb_t ((gc_eq (gb_b q49.1) kg_0 (gb_r _) (by decide)).mpr c50) ?_
    exact gf_196_38 _ _ (rfl : _ = gx q49.2) _ h
  · rw [if_neg c50] at h
    refine gb_f (fun q => c50 ((gc_eq (gb_b q49.1) kg_0 (gb_r _) (by decide)).mp q)) ?_
    obtain ⟨q52, w51, h⟩ := fx_bd h
    refine gb_bind (gf_148 e1 (rfl : _ = gx q49.2) w51) ?_
    by_cases c53 : (gb q52.1) = 0
    · rw [if_pos c53] at h
      refine gb_t ((gc_eq (gb_b q52.1) kg_0 (gb_r _) (by decide)).mpr c53) ?_
      exact gf_196_38 _ _ (rfl : _ = gx q52.2) _ h
    · rw [if_neg c53] at h
      refine gb_f (fun q => c53 ((gc_eq (gb_b q52.1) kg_0 (gb_r _) (by decide)).mp q)) ?_
      obtain ⟨z54, h⟩ := fx_gd h
      obtain ⟨q56, w55, h⟩ := fx_bd h
      refine gb_bind (gf_130 (ga_i2l e2 z54) kgl_0 kgl_8 (rfl : _ = gx q52.2) w55) ?_
      by_cases c57 : (gb q56.1) = 0
      · rw [if_pos c57] at h
        refine gb_t ((gc_eq (gb_b q56.1) kg_0 (gb_r _) (by decide)).mpr c57) ?_
        exact gf_196_38 _ _ (rfl : _ = gx q56.2) _ h
      · rw [if_neg c57] at h
        refine gb_f (fun q => c57 ((gc_eq (gb_b q56.1) kg_0 (gb_r _) (by decide)).mp q)) ?_
        obtain ⟨z58, h⟩ := fx_gd h
        obtain ⟨q60, w59, h⟩ := fx_bd h
        refine gb_bind (gf_130 (ga_i2l e3 z58) kgl_0 kgl_2 (rfl : _ = gx q56.2) w59) ?_
        by_cases c61 : ¬ (gb q60.1) = 0
        · rw [if_pos c61] at h
          refine gb_t ((gc_ne (gb_b q60.1) kg_0 (gb_r _) (by decide)).mpr c61) ?_
          obtain ⟨q63, w62, h⟩ := fx_bd h
          refine gb_bind (gf_181 e1 (rfl : _ = gx q60.2) w62) ?_
          exact gf_196_63 100000 _ _ e2 _ _ e3 _ _ kgl_0 _ _ kg_0 _ _ (gx_w2 (gx_w2 (rfl : _ = gx q63) kgl_0) kgl_1) _ h
        · rw [if_neg c61] at h
          refine gb_f (fun q => c61 ((gc_ne (gb_b q60.1) kg_0 (gb_r _) (by decide)).mp q)) ?_
          exact gf_196_38 _ _ (rfl : _ = gx q60.2) _ h

/-! ZoneSharesModel.laysSurface(I)V -/
def gm_197_96 (k_7 : Int → Int → gx_S → Option (gx_S)) (x1 : Int) (x2 : Int) (s : gx_S) : Option (gx_S) :=
  k_7 x1 (x2 + 1) s
theorem gf_197_96 {kf_7 : Int32 → Int32 → fx_S → Option (fx_S)} {kg_7 : Int → Int → gx_S → Option (gx_S)} (hk_7 : ∀ (x1 : Int) (yx1 : Int32) (e1 : yx1 = Int32.ofInt x1) (x2 : Int) (yx2 : Int32) (e2 : yx2 = Int32.ofInt x2) (s : gx_S) (σ : fx_S) (es : σ = gx s) (q : gx_S), kg_7 x1 x2 s = some q → kf_7 yx1 yx2 σ = some (gx q)) (x1 : Int) (yx1 : Int32) (e1 : yx1 = Int32.ofInt x1) (x2 : Int) (yx2 : Int32) (e2 : yx2 = Int32.ofInt x2) (s : gx_S) (σ : fx_S) (es : σ = gx s) (q : gx_S) (h : gm_197_96 kg_7 x1 x2 s = some q) : fm_197_96 kf_7 yx1 yx2 σ = some (gx q) := by
  unfold gm_197_96 at h
  unfold fm_197_96
  exact hk_7 _ _ e1 _ _ (ga_add e2 kg_1) _ _ es _ h
def gm_197_77 (k_7 : Int → Int → gx_S → Option (gx_S)) (x1 : Int) (x2 : Int) (x3 : Int) (x4 : Int) (s1 : Int) (s2 : Int) (s3 : Int) (s : gx_S) : Option (gx_S) :=
  if (-2147483648 ≤ s3 ∧ s3 ≤ 2147483647) then (
  if 0 ≤ s1 ∧ s1 < 96 then (
  (gm_157 x1 x3 (-1) x4 (gw2 s 240 (s1).toNat (s2 * s3))).bind fun q6 =>
  if (-2147483648 ≤ q6.1 ∧ q6.1 ≤ 2147483647) then (
  if 0 ≤ x2 ∧ x2 < 96 then (
  gm_197_96 k_7 x1 x2 (gw2 q6.2 241 (x2).toNat q6.1)) else none) else none) else none) else none
theorem gf_197_77 {kf_7 : Int32 → Int32 → fx_S → Option (fx_S)} {kg_7 : Int → Int → gx_S → Option (gx_S)} (hk_7 : ∀ (x1 : Int) (yx1 : Int32) (e1 : yx1 = Int32.ofInt x1) (x2 : Int) (yx2 : Int32) (e2 : yx2 = Int32.ofInt x2) (s : gx_S) (σ : fx_S) (es : σ = gx s) (q : gx_S), kg_7 x1 x2 s = some q → kf_7 yx1 yx2 σ = some (gx q)) (x1 : Int) (yx1 : Int32) (e1 : yx1 = Int32.ofInt x1) (x2 : Int) (yx2 : Int32) (e2 : yx2 = Int32.ofInt x2) (x3 : Int) (yx3 : Int32) (e3 : yx3 = Int32.ofInt x3) (x4 : Int) (yx4 : Int32) (e4 : yx4 = Int32.ofInt x4) (s1 : Int) (ys1 : Int32) (es1 : ys1 = Int32.ofInt s1) (s2 : Int) (ys2 : Int64) (es2 : ys2 = Int64.ofInt s2) (s3 : Int) (ys3 : Int32) (es3 : ys3 = Int32.ofInt s3) (s : gx_S) (σ : fx_S) (es : σ = gx s) (q : gx_S) (h : gm_197_77 kg_7 x1 x2 x3 x4 s1 s2 s3 s = some q) : fm_197_77 kf_7 yx1 yx2 yx3 yx4 ys1 ys2 ys3 σ = some (gx q) := by
  unfold gm_197_77 at h
  unfold fm_197_77
  obtain ⟨z1, h⟩ := fx_gd h
  obtain ⟨z4, h⟩ := fx_gd h
  refine gb_bind (gl_stl es es1 (gal_mul es2 (ga_i2l es3 z1)) ga_240 z4) ?_
  obtain ⟨q6, w5, h⟩ := fx_bd h
  refine gb_bind (gf_157 e1 e3 kg_m1 e4 (rfl : _ = gx (gw2 s 240 (s1).toNat (s2 * s3))) w5) ?_
  obtain ⟨z7, h⟩ := fx_gd h
  obtain ⟨z10, h⟩ := fx_gd h
  refine gb_bind (gl_stl (rfl : _ = gx q6.2) e2 (ga_i2l (gr q6.1) z7) ga_241 z10) ?_
  exact gf_197_96 hk_7 _ _ e1 _ _ e2 _ _ (rfl : _ = gx (gw2 q6.2 241 (x2).toNat q6.1)) _ h
def gm_197_7 : Nat → Int → Int → gx_S → Option (gx_S)
  | 0, _, _, _ => none
  | n + 1, x1, x2, s =>
    (gm_151 s).bind fun q2 =>
    if (-2147483648 ≤ x2 ∧ x2 ≤ 2147483647) then (
    if (-2147483648 ≤ q2.1 ∧ q2.1 ≤ 2147483647) then (
    if q2.1 ≤ x2 then (
      some q2.2) else (
      (gm_152 0 x2 q2.2).bind fun q7 =>
      if 0 ≤ x2 ∧ x2 < 96 then (
      if (-2147483648 ≤ q7.1 ∧ q7.1 ≤ 2147483647) then (
      if q7.1 = 8 then (
        gm_197_96 (gm_197_7 n) x1 x2 (gw2 (gw2 q7.2 240 (x2).toNat 0) 241 (x2).toNat 1)) else (
        (gm_180 x1 q7.1 (gw2 (gw2 q7.2 240 (x2).toNat 0) 241 (x2).toNat 1)).bind fun q16 =>
        if 0 ≤ q7.1 ∧ q7.1 < 8 then (
        if (-2147483648 ≤ (q16.2.1 236 (q7.1).toNat) ∧ (q16.2.1 236 (q7.1).toNat) ≤ 2147483647) then (
        if (gb q16.1) = 0 then (
          (gm_156 x1 x2 q16.2).bind fun q23 =>
          gm_197_77 (gm_197_7 n) x1 x2 q7.1 (gb q16.1) x2 (q16.2.1 236 (q7.1).toNat) q23.1 q23.2) else (
          gm_197_77 (gm_197_7 n) x1 x2 q7.1 (gb q16.1) x2 (q16.2.1 236 (q7.1).toNat) 1 q16.2)) else none) else none)) else none) else none)) else none) else none
theorem gf_197_7 : ∀ (n : Nat) (x1 : Int) (yx1 : Int32) (e1 : yx1 = Int32.ofInt x1) (x2 : Int) (yx2 : Int32) (e2 : yx2 = Int32.ofInt x2) (s : gx_S) (σ : fx_S) (es : σ = gx s) (q : gx_S), gm_197_7 n x1 x2 s = some q → fm_197_7 n yx1 yx2 σ = some (gx q) := by
  intro n
  induction n with
  | zero =>
    intro x1 yx1 e1 x2 yx2 e2 s σ es q  h
    rw [gm_197_7] at h
    exact fx_no h
  | succ n ih =>
    intro x1 yx1 e1 x2 yx2 e2 s σ es q  h
    rw [gm_197_7] at h
    rw [fm_197_7]
    obtain ⟨q2, w1, h⟩ := fx_bd h
    refine gb_bind (gf_151 es w1) ?_
    obtain ⟨z3, h⟩ := fx_gd h
    obtain ⟨z4, h⟩ := fx_gd h
    by_cases c5 : q2.1 ≤ x2
    · rw [if_pos c5] at h
      refine gb_t ((gc_le (gr q2.1) e2 z4 z3).mpr c5) ?_
      have h := Option.some.inj h
      subst h
      exact gretv (rfl : _ = gx q2.2)
    · rw [if_neg c5] at h
      refine gb_f (fun q => c5 ((gc_le (gr q2.1) e2 z4 z3).mp q)) ?_
      obtain ⟨q7, w6, h⟩ := fx_bd h
      refine gb_bind (gf_152 kg_0 e2 (rfl : _ = gx q2.2) w6) ?_
      obtain ⟨z10, h⟩ := fx_gd h
      refine gb_bind (gl_stl (rfl : _ = gx q7.2) e2 kgl_0 ga_240 z10) ?_
      refine gb_bind (gl_stl (rfl : _ = gx (gw2 q7.2 240 (x2).toNat 0)) e2 kgl_1 ga_241 z10) ?_
      obtain ⟨z13, h⟩ := fx_gd h
      by_cases c14 : q7.1 = 8
      · rw [if_pos c14] at h
        refine gb_t ((gc_eq (gr q7.1) kg_8 z13 (by decide)).mpr c14) ?_
        exact gf_197_96 ih _ _ e1 _ _ e2 _ _ (rfl : _ = gx (gw2 (gw2 q7.2 240 (x2).toNat 0) 241 (x2).toNat 1)) _ h
      · rw [if_neg c14] at h
        refine gb_f (fun q => c14 ((gc_eq (gr q7.1) kg_8 z13 (by decide)).mp q)) ?_
        obtain ⟨q16, w15, h⟩ := fx_bd h
        refine gb_bind (gf_180 e1 (gr q7.1) (rfl : _ = gx (gw2 (gw2 q7.2 240 (x2).toNat 0) 241 (x2).toNat 1)) w15) ?_
        obtain ⟨z19, h⟩ := fx_gd h
        refine gb_bind (gl_ld (rfl : _ = gx q16.2) (gr q7.1) ga_236 z19) ?_
        obtain ⟨z20, h⟩ := fx_gd h
        by_cases c21 : (gb q16.1) = 0
        · rw [if_pos c21] at h
          refine gb_t ((gc_eq (gb_b q16.1) kg_0 (gb_r _) (by decide)).mpr c21) ?_
          obtain ⟨q23, w22, h⟩ := fx_bd h
          refine gb_bind (gf_156 e1 e2 (rfl : _ = gx q16.2) w22) ?_
          exact gf_197_77 ih _ _ e1 _ _ e2 _ _ (gr q7.1) _ _ (gb_b q16.1) _ _ e2 _ _ (ga_i2l (gr (q16.2.1 236 (q7.1).toNat)) z20) _ _ (gr q23.1) _ _ (rfl : _ = gx q23.2) _ h
        · rw [if_neg c21] at h
          refine gb_f (fun q => c21 ((gc_eq (gb_b q16.1) kg_0 (gb_r _) (by decide)).mp q)) ?_
          exact gf_197_77 ih _ _ e1 _ _ e2 _ _ (gr q7.1) _ _ (gb_b q16.1) _ _ e2 _ _ (ga_i2l (gr (q16.2.1 236 (q7.1).toNat)) z20) _ _ kg_1 _ _ (rfl : _ = gx q16.2) _ h
def gm_197 (x1 : Int) (s : gx_S) : Option (gx_S) :=
  (gm_177 x1 s).bind fun q60 =>
  gm_197_7 100000 x1 0 q60
theorem gf_197 {x1 : Int} {yx1 : Int32} (e1 : yx1 = Int32.ofInt x1) {s : gx_S} {σ : fx_S} (es : σ = gx s) {q : gx_S} (h : gm_197 x1 s = some q) : fm_197 yx1 σ = some (gx q) := by
  unfold gm_197 at h
  unfold fm_197
  obtain ⟨q60, w59, h⟩ := fx_bd h
  refine gb_bind (gf_177 e1 es w59) ?_
  exact gf_197_7 100000 _ _ e1 _ _ kg_0 _ _ (rfl : _ = gx q60) _ h

/-! ZoneSharesModel.isCell(II)Z -/
def gm_198 (x1 : Int) (x2 : Int) (s : gx_S) : Option (Bool × gx_S) :=
  if (-2147483648 ≤ x1 ∧ x1 ≤ 2147483647) then (
  if (-2147483648 ≤ ((s.1 216 0) - 1) ∧ ((s.1 216 0) - 1) ≤ 2147483647) then (
  (gm_130 x1 0 ((s.1 216 0) - 1) s).bind fun q20 =>
  if (gb q20.1) = 0 then (
    some (false, q20.2)) else (
    if (-2147483648 ≤ x2 ∧ x2 ≤ 2147483647) then (
    if (-2147483648 ≤ ((q20.2.1 216 1) - 1) ∧ ((q20.2.1 216 1) - 1) ≤ 2147483647) then (
    (gm_130 x2 0 ((q20.2.1 216 1) - 1) q20.2).bind fun q27 =>
    if (gb q27.1) = 0 then (
      some (false, q27.2)) else (
      some (true, q27.2))) else none) else none)) else none) else none
theorem gf_198 {x1 : Int} {yx1 : Int32} (e1 : yx1 = Int32.ofInt x1) {x2 : Int} {yx2 : Int32} (e2 : yx2 = Int32.ofInt x2) {s : gx_S} {σ : fx_S} (es : σ = gx s) {q : Bool × gx_S} (h : gm_198 x1 x2 s = some q) : fm_198 yx1 yx2 σ = some (q.1, gx q.2) := by
  unfold gm_198 at h
  unfold fm_198
  obtain ⟨z15, h⟩ := fx_gd h
  refine gb_bind (gl_ld es kg_0 ga_216 (by decide)) ?_
  obtain ⟨z18, h⟩ := fx_gd h
  obtain ⟨q20, w19, h⟩ := fx_bd h
  refine gb_bind (gf_130 (ga_i2l e1 z15) kgl_0 (ga_i2l (ga_sub (gr (s.1 216 0)) kg_1) z18) es w19) ?_
  by_cases c21 : (gb q20.1) = 0
  · rw [if_pos c21] at h
    refine gb_t ((gc_eq (gb_b q20.1) kg_0 (gb_r _) (by decide)).mpr c21) ?_
    have h := Option.some.inj h
    subst h
    exact gretb (rfl : _ = gx q20.2)
  · rw [if_neg c21] at h
    refine gb_f (fun q => c21 ((gc_eq (gb_b q20.1) kg_0 (gb_r _) (by decide)).mp q)) ?_
    obtain ⟨z22, h⟩ := fx_gd h
    refine gb_bind (gl_ld (rfl : _ = gx q20.2) kg_1 ga_216 (by decide)) ?_
    obtain ⟨z25, h⟩ := fx_gd h
    obtain ⟨q27, w26, h⟩ := fx_bd h
    refine gb_bind (gf_130 (ga_i2l e2 z22) kgl_0 (ga_i2l (ga_sub (gr (q20.2.1 216 1)) kg_1) z25) (rfl : _ = gx q20.2) w26) ?_
    by_cases c28 : (gb q27.1) = 0
    · rw [if_pos c28] at h
      refine gb_t ((gc_eq (gb_b q27.1) kg_0 (gb_r _) (by decide)).mpr c28) ?_
      have h := Option.some.inj h
      subst h
      exact gretb (rfl : _ = gx q27.2)
    · rw [if_neg c28] at h
      refine gb_f (fun q => c28 ((gc_eq (gb_b q27.1) kg_0 (gb_r _) (by decide)).mp q)) ?_
      have h := Option.some.inj h
      subst h
      exact gretb (rfl : _ = gx q27.2)

/-! ZoneSharesModel.surface(IIII)J -/
def gm_199_34 (s : gx_S) : Option (Int × gx_S) :=
  some ((-1), s)
theorem gf_199_34 (s : gx_S) (σ : fx_S) (es : σ = gx s) (q : Int × gx_S) (h : gm_199_34 s = some q) : fm_199_34 σ = some (Int64.ofInt q.1, gx q.2) := by
  unfold gm_199_34 at h
  unfold fm_199_34
  have h := Option.some.inj h
  subst h
  exact gretl kgl_m1 es
def gm_199 (x1 : Int) (x2 : Int) (x3 : Int) (x4 : Int) (s : gx_S) : Option (Int × gx_S) :=
  (gm_150 s).bind fun q26 =>
  if (gb q26.1) = 0 then (
    gm_199_34 q26.2) else (
    (gm_148 x1 q26.2).bind fun q29 =>
    if (gb q29.1) = 0 then (
      gm_199_34 q29.2) else (
      (gm_198 x2 x3 q29.2).bind fun q32 =>
      if (gb q32.1) = 0 then (
        gm_199_34 q32.2) else (
        if (-2147483648 ≤ x4 ∧ x4 ≤ 2147483647) then (
        (gm_130 x4 0 1 q32.2).bind fun q36 =>
        if ¬ (gb q36.1) = 0 then (
          (gm_197 x1 q36.2).bind fun q39 =>
          if 0 ≤ (((q39.1 216 1) * x2) + x3) ∧ (((q39.1 216 1) * x2) + x3) < 96 then (
          (gm_194 (q39.2 240 ((((q39.1 216 1) * x2) + x3)).toNat) (q39.2 241 ((((q39.1 216 1) * x2) + x3)).toNat) x4 q39).bind fun q48 =>
          some (q48.1, q48.2)) else none) else (
          gm_199_34 q36.2)) else none)))
theorem gf_199 {x1 : Int} {yx1 : Int32} (e1 : yx1 = Int32.ofInt x1) {x2 : Int} {yx2 : Int32} (e2 : yx2 = Int32.ofInt x2) {x3 : Int} {yx3 : Int32} (e3 : yx3 = Int32.ofInt x3) {x4 : Int} {yx4 : Int32} (e4 : yx4 = Int32.ofInt x4) {s : gx_S} {σ : fx_S} (es : σ = gx s) {q : Int × gx_S} (h : gm_199 x1 x2 x3 x4 s = some q) : fm_199 yx1 yx2 yx3 yx4 σ = some (Int64.ofInt q.1, gx q.2) := by
  unfold gm_199 at h
  unfold fm_199
  obtain ⟨q26, w25, h⟩ := fx_bd h
  refine gb_bind (gf_150 es w25) ?_
  by_cases c27 : (gb q26.1) = 0
  · rw [if_pos c27] at h
    refine gb_t ((gc_eq (gb_b q26.1) kg_0 (gb_r _) (by decide)).mpr c27) ?_
    exact gf_199_34 _ _ (rfl : _ = gx q26.2) _ h
  · rw [if_neg c27] at h
    refine gb_f (fun q => c27 ((gc_eq (gb_b q26.1) kg_0 (gb_r _) (by decide)).mp q)) ?_
    obtain ⟨q29, w28, h⟩ := fx_bd h
    refine gb_bind (gf_148 e1 (rfl : _ = gx q26.2) w28) ?_
    by_cases c30 : (gb q29.1) = 0
    · rw [if_pos c30] at h
      refine gb_t ((gc_eq (gb_b q29.1) kg_0 (gb_r _) (by decide)).mpr c30) ?_
      exact gf_199_34 _ _ (rfl : _ = gx q29.2) _ h
    · rw [if_neg c30] at h
      refine gb_f (fun q => c30 ((gc_eq (gb_b q29.1) kg_0 (gb_r _) (by decide)).mp q)) ?_
      obtain ⟨q32, w31, h⟩ := fx_bd h
      refine gb_bind (gf_198 e2 e3 (rfl : _ = gx q29.2) w31) ?_
      by_cases c33 : (gb q32.1) = 0
      · rw [if_pos c33] at h
        refine gb_t ((gc_eq (gb_b q32.1) kg_0 (gb_r _) (by decide)).mpr c33) ?_
        exact gf_199_34 _ _ (rfl : _ = gx q32.2) _ h
      · rw [if_neg c33] at h
        refine gb_f (fun q => c33 ((gc_eq (gb_b q32.1) kg_0 (gb_r _) (by decide)).mp q)) ?_
        obtain ⟨z34, h⟩ := fx_gd h
        obtain ⟨q36, w35, h⟩ := fx_bd h
        refine gb_bind (gf_130 (ga_i2l e4 z34) kgl_0 kgl_1 (rfl : _ = gx q32.2) w35) ?_
        by_cases c37 : ¬ (gb q36.1) = 0
        · rw [if_pos c37] at h
          refine gb_t ((gc_ne (gb_b q36.1) kg_0 (gb_r _) (by decide)).mpr c37) ?_
          obtain ⟨q39, w38, h⟩ := fx_bd h
          refine gb_bind (gf_197 e1 (rfl : _ = gx q36.2) w38) ?_
          refine gb_bind (gl_ld (rfl : _ = gx q39) kg_1 ga_216 (by decide)) ?_
          obtain ⟨z44, h⟩ := fx_gd h
          refine gb_bind (gl_ldl (rfl : _ = gx q39) (ga_add (ga_mul (gr (q39.1 216 1)) e2) e3) ga_240 z44) ?_
          refine gb_bind (gl_ldl (rfl : _ = gx q39) (ga_add (ga_mul (gr (q39.1 216 1)) e2) e3) ga_241 z44) ?_
          obtain ⟨q48, w47, h⟩ := fx_bd h
          refine gb_bind (gf_194 (gr2 (q39.2 240 ((((q39.1 216 1) * x2) + x3)).toNat)) (gr2 (q39.2 241 ((((q39.1 216 1) * x2) + x3)).toNat)) e4 (rfl : _ = gx q39) w47) ?_
          have h := Option.some.inj h
          subst h
          exact gretl (gr2 q48.1) (rfl : _ = gx q48.2)
        · rw [if_neg c37] at h
          refine gb_f (fun q => c37 ((gc_ne (gb_b q36.1) kg_0 (gb_r _) (by decide)).mp q)) ?_
          exact gf_199_34 _ _ (rfl : _ = gx q36.2) _ h

/-! ZoneSharesModel.isAhead(II)Z -/
def gm_200 (x1 : Int) (x2 : Int) (s : gx_S) : Option (Bool × gx_S) :=
  if 0 ≤ x1 ∧ x1 < 96 then (
  if 0 ≤ x2 ∧ x2 < 96 then (
  if (-9223372036854775808 ≤ ((s.2 240 (x1).toNat) * (s.2 241 (x2).toNat)) ∧ ((s.2 240 (x1).toNat) * (s.2 241 (x2).toNat)) ≤ 9223372036854775807) then (
  if (-9223372036854775808 ≤ ((s.2 240 (x2).toNat) * (s.2 241 (x1).toNat)) ∧ ((s.2 240 (x2).toNat) * (s.2 241 (x1).toNat)) ≤ 9223372036854775807) then (
  if ((s.2 240 (x1).toNat) * (s.2 241 (x2).toNat)) = ((s.2 240 (x2).toNat) * (s.2 241 (x1).toNat)) then (
    if (-2147483648 ≤ x1 ∧ x1 ≤ 2147483647) then (
    if (-2147483648 ≤ x2 ∧ x2 ≤ 2147483647) then (
    if x2 ≤ x1 then (
      some (false, s)) else (
      some (true, s))) else none) else none) else (
    if ((s.2 240 (x1).toNat) * (s.2 241 (x2).toNat)) ≤ ((s.2 240 (x2).toNat) * (s.2 241 (x1).toNat)) then (
      some (false, s)) else (
      some (true, s)))) else none) else none) else none) else none
theorem gf_200 {x1 : Int} {yx1 : Int32} (e1 : yx1 = Int32.ofInt x1) {x2 : Int} {yx2 : Int32} (e2 : yx2 = Int32.ofInt x2) {s : gx_S} {σ : fx_S} (es : σ = gx s) {q : Bool × gx_S} (h : gm_200 x1 x2 s = some q) : fm_200 yx1 yx2 σ = some (q.1, gx q.2) := by
  unfold gm_200 at h
  unfold fm_200
  obtain ⟨z20, h⟩ := fx_gd h
  refine gb_bind (gl_ldl es e1 ga_240 z20) ?_
  obtain ⟨z23, h⟩ := fx_gd h
  refine gb_bind (gl_ldl es e2 ga_241 z23) ?_
  refine gb_bind (gl_ldl es e2 ga_240 z23) ?_
  refine gb_bind (gl_ldl es e1 ga_241 z20) ?_
  obtain ⟨z28, h⟩ := fx_gd h
  obtain ⟨z29, h⟩ := fx_gd h
  by_cases c30 : ((s.2 240 (x1).toNat) * (s.2 241 (x2).toNat)) = ((s.2 240 (x2).toNat) * (s.2 241 (x1).toNat))
  · rw [if_pos c30] at h
    refine gb_t ((gcl_eq (gal_mul (gr2 (s.2 240 (x1).toNat)) (gr2 (s.2 241 (x2).toNat))) (gal_mul (gr2 (s.2 240 (x2).toNat)) (gr2 (s.2 241 (x1).toNat))) z28 z29).mpr c30) ?_
    obtain ⟨z31, h⟩ := fx_gd h
    obtain ⟨z32, h⟩ := fx_gd h
    by_cases c33 : x2 ≤ x1
    · rw [if_pos c33] at h
      refine gb_t ((gc_le e2 e1 z32 z31).mpr c33) ?_
      have h := Option.some.inj h
      subst h
      exact gretb es
    · rw [if_neg c33] at h
      refine gb_f (fun q => c33 ((gc_le e2 e1 z32 z31).mp q)) ?_
      have h := Option.some.inj h
      subst h
      exact gretb es
  · rw [if_neg c30] at h
    refine gb_f (fun q => c30 ((gcl_eq (gal_mul (gr2 (s.2 240 (x1).toNat)) (gr2 (s.2 241 (x2).toNat))) (gal_mul (gr2 (s.2 240 (x2).toNat)) (gr2 (s.2 241 (x1).toNat))) z28 z29).mp q)) ?_
    by_cases c34 : ((s.2 240 (x1).toNat) * (s.2 241 (x2).toNat)) ≤ ((s.2 240 (x2).toNat) * (s.2 241 (x1).toNat))
    · rw [if_pos c34] at h
      refine gb_t ((gcl_le (gal_mul (gr2 (s.2 240 (x1).toNat)) (gr2 (s.2 241 (x2).toNat))) (gal_mul (gr2 (s.2 240 (x2).toNat)) (gr2 (s.2 241 (x1).toNat))) z28 z29).mpr c34) ?_
      have h := Option.some.inj h
      subst h
      exact gretb es
    · rw [if_neg c34] at h
      refine gb_f (fun q => c34 ((gcl_le (gal_mul (gr2 (s.2 240 (x1).toNat)) (gr2 (s.2 241 (x2).toNat))) (gal_mul (gr2 (s.2 240 (x2).toNat)) (gr2 (s.2 241 (x1).toNat))) z28 z29).mp q)) ?_
      have h := Option.some.inj h
      subst h
      exact gretb es

/-! ZoneSharesModel.densest(II)I -/
def gm_201_53 (k_39 : Int → Int → gx_S → Option (Int × gx_S)) : Nat → Int → Int → Int → Int → gx_S → Option (Int × gx_S)
  | 0, _, _, _, _, _ => none
  | n + 1, x2, x3, x4, x5, s =>
    (gm_151 s).bind fun q2 =>
    if (-2147483648 ≤ x5 ∧ x5 ≤ 2147483647) then (
    if (-2147483648 ≤ q2.1 ∧ q2.1 ≤ 2147483647) then (
    if q2.1 ≤ x5 then (
      if (-2147483648 ≤ x4 ∧ x4 ≤ 2147483647) then (
      if (-2147483648 ≤ x2 ∧ x2 ≤ 2147483647) then (
      if ¬ x4 = x2 then (
        k_39 x2 (x3 + 1) q2.2) else (
        if 0 ≤ x3 ∧ x3 ≤ 2147483647 ∧ 0 < (q2.2.1 216 1) ∧ (q2.2.1 216 1) ≤ 2147483647 then (
        some (((12 * (x3 / (q2.2.1 216 1))) + (x3 % (q2.2.1 216 1))), q2.2)) else none)) else none) else none) else (
      (gm_200 x5 x3 q2.2).bind fun q17 =>
      (gm_131 (gb q17.1) q17.2).bind fun q19 =>
      gm_201_53 k_39 n x2 x3 (x4 + q19.1) (x5 + 1) q19.2)) else none) else none
theorem gf_201_53 {kf_39 : Int32 → Int32 → fx_S → Option (Int32 × fx_S)} {kg_39 : Int → Int → gx_S → Option (Int × gx_S)} (hk_39 : ∀ (x2 : Int) (yx2 : Int32) (e2 : yx2 = Int32.ofInt x2) (x3 : Int) (yx3 : Int32) (e3 : yx3 = Int32.ofInt x3) (s : gx_S) (σ : fx_S) (es : σ = gx s) (q : Int × gx_S), kg_39 x2 x3 s = some q → kf_39 yx2 yx3 σ = some (Int32.ofInt q.1, gx q.2)) : ∀ (n : Nat) (x2 : Int) (yx2 : Int32) (e2 : yx2 = Int32.ofInt x2) (x3 : Int) (yx3 : Int32) (e3 : yx3 = Int32.ofInt x3) (x4 : Int) (yx4 : Int32) (e4 : yx4 = Int32.ofInt x4) (x5 : Int) (yx5 : Int32) (e5 : yx5 = Int32.ofInt x5) (s : gx_S) (σ : fx_S) (es : σ = gx s) (q : Int × gx_S), gm_201_53 kg_39 n x2 x3 x4 x5 s = some q → fm_201_53 kf_39 n yx2 yx3 yx4 yx5 σ = some (Int32.ofInt q.1, gx q.2) := by
  intro n
  induction n with
  | zero =>
    intro x2 yx2 e2 x3 yx3 e3 x4 yx4 e4 x5 yx5 e5 s σ es q  h
    rw [gm_201_53] at h
    exact fx_no h
  | succ n ih =>
    intro x2 yx2 e2 x3 yx3 e3 x4 yx4 e4 x5 yx5 e5 s σ es q  h
    rw [gm_201_53] at h
    rw [fm_201_53]
    obtain ⟨q2, w1, h⟩ := fx_bd h
    refine gb_bind (gf_151 es w1) ?_
    obtain ⟨z3, h⟩ := fx_gd h
    obtain ⟨z4, h⟩ := fx_gd h
    by_cases c5 : q2.1 ≤ x5
    · rw [if_pos c5] at h
      refine gb_t ((gc_le (gr q2.1) e5 z4 z3).mpr c5) ?_
      obtain ⟨z6, h⟩ := fx_gd h
      obtain ⟨z7, h⟩ := fx_gd h
      by_cases c8 : ¬ x4 = x2
      · rw [if_pos c8] at h
        refine gb_t ((gc_ne e4 e2 z6 z7).mpr c8) ?_
        exact hk_39 _ _ e2 _ _ (ga_add e3 kg_1) _ _ (rfl : _ = gx q2.2) _ h
      · rw [if_neg c8] at h
        refine gb_f (fun q => c8 ((gc_ne e4 e2 z6 z7).mp q)) ?_
        refine gb_bind (gl_ld (rfl : _ = gx q2.2) kg_1 ga_216 (by decide)) ?_
        obtain ⟨z11, h⟩ := fx_gd h
        refine gb_t (gc_nz (gr (q2.2.1 216 1)) z11) ?_
        refine gb_bind (gl_ld (rfl : _ = gx q2.2) kg_1 ga_216 (by decide)) ?_
        refine gb_t (gc_nz (gr (q2.2.1 216 1)) z11) ?_
        have h := Option.some.inj h
        subst h
        exact gret (ga_add (ga_mul kg_12 (ga_div e3 (gr (q2.2.1 216 1)) z11)) (ga_rem e3 (gr (q2.2.1 216 1)) z11)) (rfl : _ = gx q2.2)
    · rw [if_neg c5] at h
      refine gb_f (fun q => c5 ((gc_le (gr q2.1) e5 z4 z3).mp q)) ?_
      obtain ⟨q17, w16, h⟩ := fx_bd h
      refine gb_bind (gf_200 e5 e3 (rfl : _ = gx q2.2) w16) ?_
      obtain ⟨q19, w18, h⟩ := fx_bd h
      refine gb_bind (gf_131 (gb_b q17.1) (rfl : _ = gx q17.2) w18) ?_
      exact ih _ _ e2 _ _ e3 _ _ (ga_add e4 (gr q19.1)) _ _ (ga_add e5 kg_1) _ _ (rfl : _ = gx q19.2) _ h
def gm_201_39 : Nat → Int → Int → gx_S → Option (Int × gx_S)
  | 0, _, _, _ => none
  | n + 1, x2, x3, s =>
    (gm_151 s).bind fun q2 =>
    if (-2147483648 ≤ x3 ∧ x3 ≤ 2147483647) then (
    if (-2147483648 ≤ q2.1 ∧ q2.1 ≤ 2147483647) then (
    if q2.1 ≤ x3 then (
      some ((-1), q2.2)) else (
      gm_201_53 (gm_201_39 n) 100000 x2 x3 0 0 q2.2)) else none) else none
theorem gf_201_39 : ∀ (n : Nat) (x2 : Int) (yx2 : Int32) (e2 : yx2 = Int32.ofInt x2) (x3 : Int) (yx3 : Int32) (e3 : yx3 = Int32.ofInt x3) (s : gx_S) (σ : fx_S) (es : σ = gx s) (q : Int × gx_S), gm_201_39 n x2 x3 s = some q → fm_201_39 n yx2 yx3 σ = some (Int32.ofInt q.1, gx q.2) := by
  intro n
  induction n with
  | zero =>
    intro x2 yx2 e2 x3 yx3 e3 s σ es q  h
    rw [gm_201_39] at h
    exact fx_no h
  | succ n ih =>
    intro x2 yx2 e2 x3 yx3 e3 s σ es q  h
    rw [gm_201_39] at h
    rw [fm_201_39]
    obtain ⟨q2, w1, h⟩ := fx_bd h
    refine gb_bind (gf_151 es w1) ?_
    obtain ⟨z3, h⟩ := fx_gd h
    obtain ⟨z4, h⟩ := fx_gd h
    by_cases c5 : q2.1 ≤ x3
    · rw [if_pos c5] at h
      refine gb_t ((gc_le (gr q2.1) e3 z4 z3).mpr c5) ?_
      have h := Option.some.inj h
      subst h
      exact gret kg_m1 (rfl : _ = gx q2.2)
    · rw [if_neg c5] at h
      refine gb_f (fun q => c5 ((gc_le (gr q2.1) e3 z4 z3).mp q)) ?_
      exact gf_201_53 ih 100000 _ _ e2 _ _ e3 _ _ kg_0 _ _ kg_0 _ _ (rfl : _ = gx q2.2) _ h
def gm_201 (x1 : Int) (x2 : Int) (s : gx_S) : Option (Int × gx_S) :=
  (gm_150 s).bind fun q46 =>
  if (gb q46.1) = 0 then (
    some ((-1), q46.2)) else (
    (gm_148 x1 q46.2).bind fun q49 =>
    if (gb q49.1) = 0 then (
      some ((-1), q49.2)) else (
      if (-2147483648 ≤ x2 ∧ x2 ≤ 2147483647) then (
      (gm_151 q49.2).bind fun q53 =>
      if (-2147483648 ≤ (q53.1 - 1) ∧ (q53.1 - 1) ≤ 2147483647) then (
      (gm_130 x2 0 (q53.1 - 1) q53.2).bind fun q56 =>
      if ¬ (gb q56.1) = 0 then (
        (gm_197 x1 q56.2).bind fun q59 =>
        gm_201_39 100000 x2 0 q59) else (
        some ((-1), q56.2))) else none) else none))
theorem gf_201 {x1 : Int} {yx1 : Int32} (e1 : yx1 = Int32.ofInt x1) {x2 : Int} {yx2 : Int32} (e2 : yx2 = Int32.ofInt x2) {s : gx_S} {σ : fx_S} (es : σ = gx s) {q : Int × gx_S} (h : gm_201 x1 x2 s = some q) : fm_201 yx1 yx2 σ = some (Int32.ofInt q.1, gx q.2) := by
  unfold gm_201 at h
  unfold fm_201
  obtain ⟨q46, w45, h⟩ := fx_bd h
  refine gb_bind (gf_150 es w45) ?_
  by_cases c47 : (gb q46.1) = 0
  · rw [if_pos c47] at h
    refine gb_t ((gc_eq (gb_b q46.1) kg_0 (gb_r _) (by decide)).mpr c47) ?_
    have h := Option.some.inj h
    subst h
    exact gret kg_m1 (rfl : _ = gx q46.2)
  · rw [if_neg c47] at h
    refine gb_f (fun q => c47 ((gc_eq (gb_b q46.1) kg_0 (gb_r _) (by decide)).mp q)) ?_
    obtain ⟨q49, w48, h⟩ := fx_bd h
    refine gb_bind (gf_148 e1 (rfl : _ = gx q46.2) w48) ?_
    by_cases c50 : (gb q49.1) = 0
    · rw [if_pos c50] at h
      refine gb_t ((gc_eq (gb_b q49.1) kg_0 (gb_r _) (by decide)).mpr c50) ?_
      have h := Option.some.inj h
      subst h
      exact gret kg_m1 (rfl : _ = gx q49.2)
    · rw [if_neg c50] at h
      refine gb_f (fun q => c50 ((gc_eq (gb_b q49.1) kg_0 (gb_r _) (by decide)).mp q)) ?_
      obtain ⟨z51, h⟩ := fx_gd h
      obtain ⟨q53, w52, h⟩ := fx_bd h
      refine gb_bind (gf_151 (rfl : _ = gx q49.2) w52) ?_
      obtain ⟨z54, h⟩ := fx_gd h
      obtain ⟨q56, w55, h⟩ := fx_bd h
      refine gb_bind (gf_130 (ga_i2l e2 z51) kgl_0 (ga_i2l (ga_sub (gr q53.1) kg_1) z54) (rfl : _ = gx q53.2) w55) ?_
      by_cases c57 : ¬ (gb q56.1) = 0
      · rw [if_pos c57] at h
        refine gb_t ((gc_ne (gb_b q56.1) kg_0 (gb_r _) (by decide)).mpr c57) ?_
        obtain ⟨q59, w58, h⟩ := fx_bd h
        refine gb_bind (gf_197 e1 (rfl : _ = gx q56.2) w58) ?_
        exact gf_201_39 100000 _ _ e2 _ _ kg_0 _ _ (rfl : _ = gx q59) _ h
      · rw [if_neg c57] at h
        refine gb_f (fun q => c57 ((gc_ne (gb_b q56.1) kg_0 (gb_r _) (by decide)).mp q)) ?_
        have h := Option.some.inj h
        subst h
        exact gret kg_m1 (rfl : _ = gx q56.2)

/-! ZoneSharesModel.newCells(I)I -/
def gm_202_28 (k_4 : Int → Int → Int → gx_S → Option (Int × gx_S)) (x1 : Int) (x3 : Int) (s0 : Int) (s1 : Int) (s : gx_S) : Option (Int × gx_S) :=
  (gm_131 s1 s).bind fun q2 =>
  k_4 x1 (s0 + q2.1) (x3 + 1) q2.2
theorem gf_202_28 {kf_4 : Int32 → Int32 → Int32 → fx_S → Option (Int32 × fx_S)} {kg_4 : Int → Int → Int → gx_S → Option (Int × gx_S)} (hk_4 : ∀ (x1 : Int) (yx1 : Int32) (e1 : yx1 = Int32.ofInt x1) (x2 : Int) (yx2 : Int32) (e2 : yx2 = Int32.ofInt x2) (x3 : Int) (yx3 : Int32) (e3 : yx3 = Int32.ofInt x3) (s : gx_S) (σ : fx_S) (es : σ = gx s) (q : Int × gx_S), kg_4 x1 x2 x3 s = some q → kf_4 yx1 yx2 yx3 σ = some (Int32.ofInt q.1, gx q.2)) (x1 : Int) (yx1 : Int32) (e1 : yx1 = Int32.ofInt x1) (x3 : Int) (yx3 : Int32) (e3 : yx3 = Int32.ofInt x3) (s0 : Int) (ys0 : Int32) (es0 : ys0 = Int32.ofInt s0) (s1 : Int) (ys1 : Int32) (es1 : ys1 = Int32.ofInt s1) (s : gx_S) (σ : fx_S) (es : σ = gx s) (q : Int × gx_S) (h : gm_202_28 kg_4 x1 x3 s0 s1 s = some q) : fm_202_28 kf_4 yx1 yx3 ys0 ys1 σ = some (Int32.ofInt q.1, gx q.2) := by
  unfold gm_202_28 at h
  unfold fm_202_28
  obtain ⟨q2, w1, h⟩ := fx_bd h
  refine gb_bind (gf_131 es1 es w1) ?_
  exact hk_4 _ _ e1 _ _ (ga_add es0 (gr q2.1)) _ _ (ga_add e3 kg_1) _ _ (rfl : _ = gx q2.2) _ h
def gm_202_4 : Nat → Int → Int → Int → gx_S → Option (Int × gx_S)
  | 0, _, _, _, _ => none
  | n + 1, x1, x2, x3, s =>
    (gm_151 s).bind fun q2 =>
    if (-2147483648 ≤ x3 ∧ x3 ≤ 2147483647) then (
    if (-2147483648 ≤ q2.1 ∧ q2.1 ≤ 2147483647) then (
    if q2.1 ≤ x3 then (
      some (x2, q2.2)) else (
      (gm_152 1 x3 q2.2).bind fun q7 =>
      if (-2147483648 ≤ q7.1 ∧ q7.1 ≤ 2147483647) then (
      if (-2147483648 ≤ x1 ∧ x1 ≤ 2147483647) then (
      if ¬ q7.1 = x1 then (
        gm_202_28 (gm_202_4 n) x1 x3 x2 0 q7.2) else (
        gm_202_28 (gm_202_4 n) x1 x3 x2 1 q7.2)) else none) else none)) else none) else none
theorem gf_202_4 : ∀ (n : Nat) (x1 : Int) (yx1 : Int32) (e1 : yx1 = Int32.ofInt x1) (x2 : Int) (yx2 : Int32) (e2 : yx2 = Int32.ofInt x2) (x3 : Int) (yx3 : Int32) (e3 : yx3 = Int32.ofInt x3) (s : gx_S) (σ : fx_S) (es : σ = gx s) (q : Int × gx_S), gm_202_4 n x1 x2 x3 s = some q → fm_202_4 n yx1 yx2 yx3 σ = some (Int32.ofInt q.1, gx q.2) := by
  intro n
  induction n with
  | zero =>
    intro x1 yx1 e1 x2 yx2 e2 x3 yx3 e3 s σ es q  h
    rw [gm_202_4] at h
    exact fx_no h
  | succ n ih =>
    intro x1 yx1 e1 x2 yx2 e2 x3 yx3 e3 s σ es q  h
    rw [gm_202_4] at h
    rw [fm_202_4]
    obtain ⟨q2, w1, h⟩ := fx_bd h
    refine gb_bind (gf_151 es w1) ?_
    obtain ⟨z3, h⟩ := fx_gd h
    obtain ⟨z4, h⟩ := fx_gd h
    by_cases c5 : q2.1 ≤ x3
    · rw [if_pos c5] at h
      refine gb_t ((gc_le (gr q2.1) e3 z4 z3).mpr c5) ?_
      have h := Option.some.inj h
      subst h
      exact gret e2 (rfl : _ = gx q2.2)
    · rw [if_neg c5] at h
      refine gb_f (fun q => c5 ((gc_le (gr q2.1) e3 z4 z3).mp q)) ?_
      obtain ⟨q7, w6, h⟩ := fx_bd h
      refine gb_bind (gf_152 kg_1 e3 (rfl : _ = gx q2.2) w6) ?_
      obtain ⟨z8, h⟩ := fx_gd h
      obtain ⟨z9, h⟩ := fx_gd h
      by_cases c10 : ¬ q7.1 = x1
      · rw [if_pos c10] at h
        refine gb_t ((gc_ne (gr q7.1) e1 z8 z9).mpr c10) ?_
        exact gf_202_28 ih _ _ e1 _ _ e3 _ _ e2 _ _ kg_0 _ _ (rfl : _ = gx q7.2) _ h
      · rw [if_neg c10] at h
        refine gb_f (fun q => c10 ((gc_ne (gr q7.1) e1 z8 z9).mp q)) ?_
        exact gf_202_28 ih _ _ e1 _ _ e3 _ _ e2 _ _ kg_1 _ _ (rfl : _ = gx q7.2) _ h
def gm_202 (x1 : Int) (s : gx_S) : Option (Int × gx_S) :=
  gm_202_4 100000 x1 0 0 s
theorem gf_202 {x1 : Int} {yx1 : Int32} (e1 : yx1 = Int32.ofInt x1) {s : gx_S} {σ : fx_S} (es : σ = gx s) {q : Int × gx_S} (h : gm_202 x1 s = some q) : fm_202 yx1 σ = some (Int32.ofInt q.1, gx q.2) := by
  unfold gm_202 at h
  unfold fm_202
  exact gf_202_4 100000 _ _ e1 _ _ kg_0 _ _ kg_0 _ _ es _ h

/-! ZoneSharesModel.laysCellsOf(I)V -/
def gm_205_121 : Nat → Int → Int → gx_S → Option (gx_S)
  | 0, _, _, _ => none
  | n + 1, x1, x2, s =>
    if (-2147483648 ≤ x2 ∧ x2 ≤ 2147483647) then (
    if 4 ≤ x2 then (
      some s) else (
      if 0 ≤ ((32 + (4 * x1)) + x2) ∧ ((32 + (4 * x1)) + x2) < 340 then (
      if 0 ≤ x2 ∧ x2 < 4 then (
      gm_205_121 n x1 (x2 + 1) (gw1 s 243 (x2).toNat (s.1 216 (((32 + (4 * x1)) + x2)).toNat))) else none) else none)) else none
theorem gf_205_121 : ∀ (n : Nat) (x1 : Int) (yx1 : Int32) (e1 : yx1 = Int32.ofInt x1) (x2 : Int) (yx2 : Int32) (e2 : yx2 = Int32.ofInt x2) (s : gx_S) (σ : fx_S) (es : σ = gx s) (q : gx_S), gm_205_121 n x1 x2 s = some q → fm_205_121 n yx1 yx2 σ = some (gx q) := by
  intro n
  induction n with
  | zero =>
    intro x1 yx1 e1 x2 yx2 e2 s σ es q  h
    rw [gm_205_121] at h
    exact fx_no h
  | succ n ih =>
    intro x1 yx1 e1 x2 yx2 e2 s σ es q  h
    rw [gm_205_121] at h
    rw [fm_205_121]
    obtain ⟨z1, h⟩ := fx_gd h
    by_cases c2 : 4 ≤ x2
    · rw [if_pos c2] at h
      refine gb_t ((gc_le kg_4 e2 (by decide) z1).mpr c2) ?_
      have h := Option.some.inj h
      subst h
      exact gretv es
    · rw [if_neg c2] at h
      refine gb_f (fun q => c2 ((gc_le kg_4 e2 (by decide) z1).mp q)) ?_
      obtain ⟨z5, h⟩ := fx_gd h
      refine gb_bind (gl_ld es (ga_add (ga_add kg_32 (ga_mul kg_4 e1)) e2) ga_216 z5) ?_
      obtain ⟨z8, h⟩ := fx_gd h
      refine gb_bind (gl_st es e2 (gr (s.1 216 (((32 + (4 * x1)) + x2)).toNat)) ga_243 z8) ?_
      exact ih _ _ e1 _ _ (ga_add e2 kg_1) _ _ (rfl : _ = gx (gw1 s 243 (x2).toNat (s.1 216 (((32 + (4 * x1)) + x2)).toNat))) _ h
def gm_205_109 (k_79 : Int → Int → gx_S → Option (gx_S)) (x1 : Int) (x2 : Int) (s1 : Int) (s2 : Int) (s : gx_S) : Option (gx_S) :=
  k_79 x1 (x2 + 1) (gw1 s 215 42 (s1 + s2))
theorem gf_205_109 {kf_79 : Int32 → Int32 → fx_S → Option (fx_S)} {kg_79 : Int → Int → gx_S → Option (gx_S)} (hk_79 : ∀ (x1 : Int) (yx1 : Int32) (e1 : yx1 = Int32.ofInt x1) (x2 : Int) (yx2 : Int32) (e2 : yx2 = Int32.ofInt x2) (s : gx_S) (σ : fx_S) (es : σ = gx s) (q : gx_S), kg_79 x1 x2 s = some q → kf_79 yx1 yx2 σ = some (gx q)) (x1 : Int) (yx1 : Int32) (e1 : yx1 = Int32.ofInt x1) (x2 : Int) (yx2 : Int32) (e2 : yx2 = Int32.ofInt x2) (s1 : Int) (ys1 : Int32) (es1 : ys1 = Int32.ofInt s1) (s2 : Int) (ys2 : Int32) (es2 : ys2 = Int32.ofInt s2) (s : gx_S) (σ : fx_S) (es : σ = gx s) (q : gx_S) (h : gm_205_109 kg_79 x1 x2 s1 s2 s = some q) : fm_205_109 kf_79 yx1 yx2 ys1 ys2 σ = some (gx q) := by
  unfold gm_205_109 at h
  unfold fm_205_109
  exact hk_79 _ _ e1 _ _ (ga_add e2 kg_1) _ _ (gx_w1 es (ga_add es1 es2)) _ h
def gm_205_79 : Nat → Int → Int → gx_S → Option (gx_S)
  | 0, _, _, _ => none
  | n + 1, x1, x2, s =>
    if (-2147483648 ≤ x2 ∧ x2 ≤ 2147483647) then (
    if 8 ≤ x2 then (
      gm_205_121 100000 x1 0 s) else (
      (gm_153 0 x2 s).bind fun q4 =>
      if (gb q4.1) = 0 then (
        gm_205_109 (gm_205_79 n) x1 x2 (s.1 215 42) 0 q4.2) else (
        (gm_155 x1 x2 q4.2).bind fun q7 =>
        gm_205_109 (gm_205_79 n) x1 x2 (s.1 215 42) q7.1 q7.2))) else none
theorem gf_205_79 : ∀ (n : Nat) (x1 : Int) (yx1 : Int32) (e1 : yx1 = Int32.ofInt x1) (x2 : Int) (yx2 : Int32) (e2 : yx2 = Int32.ofInt x2) (s : gx_S) (σ : fx_S) (es : σ = gx s) (q : gx_S), gm_205_79 n x1 x2 s = some q → fm_205_79 n yx1 yx2 σ = some (gx q) := by
  intro n
  induction n with
  | zero =>
    intro x1 yx1 e1 x2 yx2 e2 s σ es q  h
    rw [gm_205_79] at h
    exact fx_no h
  | succ n ih =>
    intro x1 yx1 e1 x2 yx2 e2 s σ es q  h
    rw [gm_205_79] at h
    rw [fm_205_79]
    obtain ⟨z1, h⟩ := fx_gd h
    by_cases c2 : 8 ≤ x2
    · rw [if_pos c2] at h
      refine gb_t ((gc_le kg_8 e2 (by decide) z1).mpr c2) ?_
      exact gf_205_121 100000 _ _ e1 _ _ kg_0 _ _ es _ h
    · rw [if_neg c2] at h
      refine gb_f (fun q => c2 ((gc_le kg_8 e2 (by decide) z1).mp q)) ?_
      obtain ⟨q4, w3, h⟩ := fx_bd h
      refine gb_bind (gf_153 kg_0 e2 es w3) ?_
      by_cases c5 : (gb q4.1) = 0
      · rw [if_pos c5] at h
        refine gb_t ((gc_eq (gb_b q4.1) kg_0 (gb_r _) (by decide)).mpr c5) ?_
        exact gf_205_109 ih _ _ e1 _ _ e2 _ _ (gf1 es 215 42) _ _ kg_0 _ _ (rfl : _ = gx q4.2) _ h
      · rw [if_neg c5] at h
        refine gb_f (fun q => c5 ((gc_eq (gb_b q4.1) kg_0 (gb_r _) (by decide)).mp q)) ?_
        obtain ⟨q7, w6, h⟩ := fx_bd h
        refine gb_bind (gf_155 e1 e2 (rfl : _ = gx q4.2) w6) ?_
        exact gf_205_109 ih _ _ e1 _ _ e2 _ _ (gf1 es 215 42) _ _ (gr q7.1) _ _ (rfl : _ = gx q7.2) _ h
def gm_205_66 (k_23 : Int → Int → gx_S → Option (gx_S)) (x1 : Int) (x2 : Int) (s : gx_S) : Option (gx_S) :=
  k_23 x1 (x2 + 1) s
theorem gf_205_66 {kf_23 : Int32 → Int32 → fx_S → Option (fx_S)} {kg_23 : Int → Int → gx_S → Option (gx_S)} (hk_23 : ∀ (x1 : Int) (yx1 : Int32) (e1 : yx1 = Int32.ofInt x1) (x2 : Int) (yx2 : Int32) (e2 : yx2 = Int32.ofInt x2) (s : gx_S) (σ : fx_S) (es : σ = gx s) (q : gx_S), kg_23 x1 x2 s = some q → kf_23 yx1 yx2 σ = some (gx q)) (x1 : Int) (yx1 : Int32) (e1 : yx1 = Int32.ofInt x1) (x2 : Int) (yx2 : Int32) (e2 : yx2 = Int32.ofInt x2) (s : gx_S) (σ : fx_S) (es : σ = gx s) (q : gx_S) (h : gm_205_66 kg_23 x1 x2 s = some q) : fm_205_66 kf_23 yx1 yx2 σ = some (gx q) := by
  unfold gm_205_66 at h
  unfold fm_205_66
  exact hk_23 _ _ e1 _ _ (ga_add e2 kg_1) _ _ es _ h
def gm_205_23 : Nat → Int → Int → gx_S → Option (gx_S)
  | 0, _, _, _ => none
  | n + 1, x1, x2, s =>
    (gm_151 s).bind fun q2 =>
    if (-2147483648 ≤ x2 ∧ x2 ≤ 2147483647) then (
    if (-2147483648 ≤ q2.1 ∧ q2.1 ≤ 2147483647) then (
    if q2.1 ≤ x2 then (
      gm_205_79 100000 x1 0 (gw1 q2.2 215 42 0)) else (
      (gm_152 0 x2 q2.2).bind fun q7 =>
      if (-2147483648 ≤ q7.1 ∧ q7.1 ≤ 2147483647) then (
      if q7.1 = 8 then (
        gm_205_66 (gm_205_23 n) x1 x2 q7.2) else (
        (gm_152 0 x2 q7.2).bind fun q11 =>
        (gm_152 2 x2 q11.2).bind fun q13 =>
        if 0 ≤ ((4 * q11.1) + q13.1) ∧ ((4 * q11.1) + q13.1) < 32 then (
        gm_205_66 (gm_205_23 n) x1 x2 (gw1 q13.2 242 (((4 * q11.1) + q13.1)).toNat ((q13.2.1 242 (((4 * q11.1) + q13.1)).toNat) + 1))) else none)) else none)) else none) else none
theorem gf_205_23 : ∀ (n : Nat) (x1 : Int) (yx1 : Int32) (e1 : yx1 = Int32.ofInt x1) (x2 : Int) (yx2 : Int32) (e2 : yx2 = Int32.ofInt x2) (s : gx_S) (σ : fx_S) (es : σ = gx s) (q : gx_S), gm_205_23 n x1 x2 s = some q → fm_205_23 n yx1 yx2 σ = some (gx q) := by
  intro n
  induction n with
  | zero =>
    intro x1 yx1 e1 x2 yx2 e2 s σ es q  h
    rw [gm_205_23] at h
    exact fx_no h
  | succ n ih =>
    intro x1 yx1 e1 x2 yx2 e2 s σ es q  h
    rw [gm_205_23] at h
    rw [fm_205_23]
    obtain ⟨q2, w1, h⟩ := fx_bd h
    refine gb_bind (gf_151 es w1) ?_
    obtain ⟨z3, h⟩ := fx_gd h
    obtain ⟨z4, h⟩ := fx_gd h
    by_cases c5 : q2.1 ≤ x2
    · rw [if_pos c5] at h
      refine gb_t ((gc_le (gr q2.1) e2 z4 z3).mpr c5) ?_
      exact gf_205_79 100000 _ _ e1 _ _ kg_0 _ _ (gx_w1 (rfl : _ = gx q2.2) kg_0) _ h
    · rw [if_neg c5] at h
      refine gb_f (fun q => c5 ((gc_le (gr q2.1) e2 z4 z3).mp q)) ?_
      obtain ⟨q7, w6, h⟩ := fx_bd h
      refine gb_bind (gf_152 kg_0 e2 (rfl : _ = gx q2.2) w6) ?_
      obtain ⟨z8, h⟩ := fx_gd h
      by_cases c9 : q7.1 = 8
      · rw [if_pos c9] at h
        refine gb_t ((gc_eq (gr q7.1) kg_8 z8 (by decide)).mpr c9) ?_
        exact gf_205_66 ih _ _ e1 _ _ e2 _ _ (rfl : _ = gx q7.2) _ h
      · rw [if_neg c9] at h
        refine gb_f (fun q => c9 ((gc_eq (gr q7.1) kg_8 z8 (by decide)).mp q)) ?_
        obtain ⟨q11, w10, h⟩ := fx_bd h
        refine gb_bind (gf_152 kg_0 e2 (rfl : _ = gx q7.2) w10) ?_
        obtain ⟨q13, w12, h⟩ := fx_bd h
        refine gb_bind (gf_152 kg_2 e2 (rfl : _ = gx q11.2) w12) ?_
        obtain ⟨z16, h⟩ := fx_gd h
        refine gb_bind (gl_ld (rfl : _ = gx q13.2) (ga_add (ga_mul kg_4 (gr q11.1)) (gr q13.1)) ga_242 z16) ?_
        refine gb_bind (gl_st (rfl : _ = gx q13.2) (ga_add (ga_mul kg_4 (gr q11.1)) (gr q13.1)) (ga_add (gr (q13.2.1 242 (((4 * q11.1) + q13.1)).toNat)) kg_1) ga_242 z16) ?_
        exact gf_205_66 ih _ _ e1 _ _ e2 _ _ (rfl : _ = gx (gw1 q13.2 242 (((4 * q11.1) + q13.1)).toNat ((q13.2.1 242 (((4 * q11.1) + q13.1)).toNat) + 1))) _ h
def gm_205_2 : Nat → Int → Int → gx_S → Option (gx_S)
  | 0, _, _, _ => none
  | n + 1, x1, x2, s =>
    if (-2147483648 ≤ x2 ∧ x2 ≤ 2147483647) then (
    if 32 ≤ x2 then (
      gm_205_23 100000 x1 0 s) else (
      if 0 ≤ x2 ∧ x2 < 32 then (
      gm_205_2 n x1 (x2 + 1) (gw1 s 242 (x2).toNat 0)) else none)) else none
theorem gf_205_2 : ∀ (n : Nat) (x1 : Int) (yx1 : Int32) (e1 : yx1 = Int32.ofInt x1) (x2 : Int) (yx2 : Int32) (e2 : yx2 = Int32.ofInt x2) (s : gx_S) (σ : fx_S) (es : σ = gx s) (q : gx_S), gm_205_2 n x1 x2 s = some q → fm_205_2 n yx1 yx2 σ = some (gx q) := by
  intro n
  induction n with
  | zero =>
    intro x1 yx1 e1 x2 yx2 e2 s σ es q  h
    rw [gm_205_2] at h
    exact fx_no h
  | succ n ih =>
    intro x1 yx1 e1 x2 yx2 e2 s σ es q  h
    rw [gm_205_2] at h
    rw [fm_205_2]
    obtain ⟨z1, h⟩ := fx_gd h
    by_cases c2 : 32 ≤ x2
    · rw [if_pos c2] at h
      refine gb_t ((gc_le kg_32 e2 (by decide) z1).mpr c2) ?_
      exact gf_205_23 100000 _ _ e1 _ _ kg_0 _ _ es _ h
    · rw [if_neg c2] at h
      refine gb_f (fun q => c2 ((gc_le kg_32 e2 (by decide) z1).mp q)) ?_
      obtain ⟨z5, h⟩ := fx_gd h
      refine gb_bind (gl_st es e2 kg_0 ga_242 z5) ?_
      exact ih _ _ e1 _ _ (ga_add e2 kg_1) _ _ (rfl : _ = gx (gw1 s 242 (x2).toNat 0)) _ h
def gm_205 (x1 : Int) (s : gx_S) : Option (gx_S) :=
  gm_205_2 100000 x1 0 s
theorem gf_205 {x1 : Int} {yx1 : Int32} (e1 : yx1 = Int32.ofInt x1) {s : gx_S} {σ : fx_S} (es : σ = gx s) {q : gx_S} (h : gm_205 x1 s = some q) : fm_205 yx1 σ = some (gx q) := by
  unfold gm_205 at h
  unfold fm_205
  exact gf_205_2 100000 _ _ e1 _ _ kg_0 _ _ es _ h

/-! ZoneSharesModel.weighs(I)I -/
def gm_206_4 : Nat → Int → Int → Int → gx_S → Option (Int × gx_S)
  | 0, _, _, _, _ => none
  | n + 1, x1, x2, x3, s =>
    if (-2147483648 ≤ x3 ∧ x3 ≤ 2147483647) then (
    if 4 ≤ x3 then (
      some (x2, s)) else (
      if 0 ≤ x3 ∧ x3 < 4 then (
      if 0 ≤ ((4 * x1) + x3) ∧ ((4 * x1) + x3) < 32 then (
      gm_206_4 n x1 (x2 + ((s.1 243 (x3).toNat) * (s.1 242 (((4 * x1) + x3)).toNat))) (x3 + 1) s) else none) else none)) else none
theorem gf_206_4 : ∀ (n : Nat) (x1 : Int) (yx1 : Int32) (e1 : yx1 = Int32.ofInt x1) (x2 : Int) (yx2 : Int32) (e2 : yx2 = Int32.ofInt x2) (x3 : Int) (yx3 : Int32) (e3 : yx3 = Int32.ofInt x3) (s : gx_S) (σ : fx_S) (es : σ = gx s) (q : Int × gx_S), gm_206_4 n x1 x2 x3 s = some q → fm_206_4 n yx1 yx2 yx3 σ = some (Int32.ofInt q.1, gx q.2) := by
  intro n
  induction n with
  | zero =>
    intro x1 yx1 e1 x2 yx2 e2 x3 yx3 e3 s σ es q  h
    rw [gm_206_4] at h
    exact fx_no h
  | succ n ih =>
    intro x1 yx1 e1 x2 yx2 e2 x3 yx3 e3 s σ es q  h
    rw [gm_206_4] at h
    rw [fm_206_4]
    obtain ⟨z1, h⟩ := fx_gd h
    by_cases c2 : 4 ≤ x3
    · rw [if_pos c2] at h
      refine gb_t ((gc_le kg_4 e3 (by decide) z1).mpr c2) ?_
      have h := Option.some.inj h
      subst h
      exact gret e2 es
    · rw [if_neg c2] at h
      refine gb_f (fun q => c2 ((gc_le kg_4 e3 (by decide) z1).mp q)) ?_
      obtain ⟨z5, h⟩ := fx_gd h
      refine gb_bind (gl_ld es e3 ga_243 z5) ?_
      obtain ⟨z8, h⟩ := fx_gd h
      refine gb_bind (gl_ld es (ga_add (ga_mul kg_4 e1) e3) ga_242 z8) ?_
      exact ih _ _ e1 _ _ (ga_add e2 (ga_mul (gr (s.1 243 (x3).toNat)) (gr (s.1 242 (((4 * x1) + x3)).toNat)))) _ _ (ga_add e3 kg_1) _ _ es _ h
def gm_206 (x1 : Int) (s : gx_S) : Option (Int × gx_S) :=
  gm_206_4 100000 x1 0 0 s
theorem gf_206 {x1 : Int} {yx1 : Int32} (e1 : yx1 = Int32.ofInt x1) {s : gx_S} {σ : fx_S} (es : σ = gx s) {q : Int × gx_S} (h : gm_206 x1 s = some q) : fm_206 yx1 σ = some (Int32.ofInt q.1, gx q.2) := by
  unfold gm_206 at h
  unfold fm_206
  exact gf_206_4 100000 _ _ e1 _ _ kg_0 _ _ kg_0 _ _ es _ h

/-! ZoneSharesModel.landCells(I)I -/
def gm_207_4 : Nat → Int → Int → Int → gx_S → Option (Int × gx_S)
  | 0, _, _, _, _ => none
  | n + 1, x1, x2, x3, s =>
    if (-2147483648 ≤ x3 ∧ x3 ≤ 2147483647) then (
    if 8 ≤ x3 then (
      some (x2, s)) else (
      if 0 ≤ ((4 * x3) + x1) ∧ ((4 * x3) + x1) < 32 then (
      gm_207_4 n x1 (x2 + (s.1 242 (((4 * x3) + x1)).toNat)) (x3 + 1) s) else none)) else none
theorem gf_207_4 : ∀ (n : Nat) (x1 : Int) (yx1 : Int32) (e1 : yx1 = Int32.ofInt x1) (x2 : Int) (yx2 : Int32) (e2 : yx2 = Int32.ofInt x2) (x3 : Int) (yx3 : Int32) (e3 : yx3 = Int32.ofInt x3) (s : gx_S) (σ : fx_S) (es : σ = gx s) (q : Int × gx_S), gm_207_4 n x1 x2 x3 s = some q → fm_207_4 n yx1 yx2 yx3 σ = some (Int32.ofInt q.1, gx q.2) := by
  intro n
  induction n with
  | zero =>
    intro x1 yx1 e1 x2 yx2 e2 x3 yx3 e3 s σ es q  h
    rw [gm_207_4] at h
    exact fx_no h
  | succ n ih =>
    intro x1 yx1 e1 x2 yx2 e2 x3 yx3 e3 s σ es q  h
    rw [gm_207_4] at h
    rw [fm_207_4]
    obtain ⟨z1, h⟩ := fx_gd h
    by_cases c2 : 8 ≤ x3
    · rw [if_pos c2] at h
      refine gb_t ((gc_le kg_8 e3 (by decide) z1).mpr c2) ?_
      have h := Option.some.inj h
      subst h
      exact gret e2 es
    · rw [if_neg c2] at h
      refine gb_f (fun q => c2 ((gc_le kg_8 e3 (by decide) z1).mp q)) ?_
      obtain ⟨z5, h⟩ := fx_gd h
      refine gb_bind (gl_ld es (ga_add (ga_mul kg_4 e3) e1) ga_242 z5) ?_
      exact ih _ _ e1 _ _ (ga_add e2 (gr (s.1 242 (((4 * x3) + x1)).toNat))) _ _ (ga_add e3 kg_1) _ _ es _ h
def gm_207 (x1 : Int) (s : gx_S) : Option (Int × gx_S) :=
  gm_207_4 100000 x1 0 0 s
theorem gf_207 {x1 : Int} {yx1 : Int32} (e1 : yx1 = Int32.ofInt x1) {s : gx_S} {σ : fx_S} (es : σ = gx s) {q : Int × gx_S} (h : gm_207 x1 s = some q) : fm_207 yx1 σ = some (Int32.ofInt q.1, gx q.2) := by
  unfold gm_207 at h
  unfold fm_207
  exact gf_207_4 100000 _ _ e1 _ _ kg_0 _ _ kg_0 _ _ es _ h

/-! ZoneSharesModel.isOldCounted(I)Z -/
def gm_208_4 : Nat → Int → Int → Int → gx_S → Option (Bool × gx_S)
  | 0, _, _, _, _ => none
  | n + 1, x1, x2, x3, s =>
    if (-2147483648 ≤ x3 ∧ x3 ≤ 2147483647) then (
    if 4 ≤ x3 then (
      if (-2147483648 ≤ x2 ∧ x2 ≤ 2147483647) then (
      if x2 ≤ 0 then (
        some (false, s)) else (
        some (true, s))) else none) else (
      if 0 ≤ ((4 * x1) + x3) ∧ ((4 * x1) + x3) < 32 then (
      gm_208_4 n x1 (x2 + (s.1 242 (((4 * x1) + x3)).toNat)) (x3 + 1) s) else none)) else none
theorem gf_208_4 : ∀ (n : Nat) (x1 : Int) (yx1 : Int32) (e1 : yx1 = Int32.ofInt x1) (x2 : Int) (yx2 : Int32) (e2 : yx2 = Int32.ofInt x2) (x3 : Int) (yx3 : Int32) (e3 : yx3 = Int32.ofInt x3) (s : gx_S) (σ : fx_S) (es : σ = gx s) (q : Bool × gx_S), gm_208_4 n x1 x2 x3 s = some q → fm_208_4 n yx1 yx2 yx3 σ = some (q.1, gx q.2) := by
  intro n
  induction n with
  | zero =>
    intro x1 yx1 e1 x2 yx2 e2 x3 yx3 e3 s σ es q  h
    rw [gm_208_4] at h
    exact fx_no h
  | succ n ih =>
    intro x1 yx1 e1 x2 yx2 e2 x3 yx3 e3 s σ es q  h
    rw [gm_208_4] at h
    rw [fm_208_4]
    obtain ⟨z1, h⟩ := fx_gd h
    by_cases c2 : 4 ≤ x3
    · rw [if_pos c2] at h
      refine gb_t ((gc_le kg_4 e3 (by decide) z1).mpr c2) ?_
      obtain ⟨z3, h⟩ := fx_gd h
      by_cases c4 : x2 ≤ 0
      · rw [if_pos c4] at h
        refine gb_t ((gc_le e2 kg_0 z3 (by decide)).mpr c4) ?_
        have h := Option.some.inj h
        subst h
        exact gretb es
      · rw [if_neg c4] at h
        refine gb_f (fun q => c4 ((gc_le e2 kg_0 z3 (by decide)).mp q)) ?_
        have h := Option.some.inj h
        subst h
        exact gretb es
    · rw [if_neg c2] at h
      refine gb_f (fun q => c2 ((gc_le kg_4 e3 (by decide) z1).mp q)) ?_
      obtain ⟨z7, h⟩ := fx_gd h
      refine gb_bind (gl_ld es (ga_add (ga_mul kg_4 e1) e3) ga_242 z7) ?_
      exact ih _ _ e1 _ _ (ga_add e2 (gr (s.1 242 (((4 * x1) + x3)).toNat))) _ _ (ga_add e3 kg_1) _ _ es _ h
def gm_208 (x1 : Int) (s : gx_S) : Option (Bool × gx_S) :=
  gm_208_4 100000 x1 0 0 s
theorem gf_208 {x1 : Int} {yx1 : Int32} (e1 : yx1 = Int32.ofInt x1) {s : gx_S} {σ : fx_S} (es : σ = gx s) {q : Bool × gx_S} (h : gm_208 x1 s = some q) : fm_208 yx1 σ = some (q.1, gx q.2) := by
  unfold gm_208 at h
  unfold fm_208
  exact gf_208_4 100000 _ _ e1 _ _ kg_0 _ _ kg_0 _ _ es _ h

/-! ZoneSharesModel.laysMisfit(I)Z -/
def gm_209_93 (k_41 : Int → Int → Int → gx_S → Option (Bool × gx_S)) (x1 : Int) (x2 : Int) (x4 : Int) (s : gx_S) : Option (Bool × gx_S) :=
  k_41 x1 x2 (x4 + 1) s
theorem gf_209_93 {kf_41 : Int32 → Int64 → Int32 → fx_S → Option (Bool × fx_S)} {kg_41 : Int → Int → Int → gx_S → Option (Bool × gx_S)} (hk_41 : ∀ (x1 : Int) (yx1 : Int32) (e1 : yx1 = Int32.ofInt x1) (x2 : Int) (yx2 : Int64) (e2 : yx2 = Int64.ofInt x2) (x4 : Int) (yx4 : Int32) (e4 : yx4 = Int32.ofInt x4) (s : gx_S) (σ : fx_S) (es : σ = gx s) (q : Bool × gx_S), kg_41 x1 x2 x4 s = some q → kf_41 yx1 yx2 yx4 σ = some (q.1, gx q.2)) (x1 : Int) (yx1 : Int32) (e1 : yx1 = Int32.ofInt x1) (x2 : Int) (yx2 : Int64) (e2 : yx2 = Int64.ofInt x2) (x4 : Int) (yx4 : Int32) (e4 : yx4 = Int32.ofInt x4) (s : gx_S) (σ : fx_S) (es : σ = gx s) (q : Bool × gx_S) (h : gm_209_93 kg_41 x1 x2 x4 s = some q) : fm_209_93 kf_41 yx1 yx2 yx4 σ = some (q.1, gx q.2) := by
  unfold gm_209_93 at h
  unfold fm_209_93
  exact hk_41 _ _ e1 _ _ e2 _ _ (ga_add e4 kg_1) _ _ es _ h
def gm_209_41 : Nat → Int → Int → Int → gx_S → Option (Bool × gx_S)
  | 0, _, _, _, _ => none
  | n + 1, x1, x2, x4, s =>
    if (-2147483648 ≤ x4 ∧ x4 ≤ 2147483647) then (
    if 8 ≤ x4 then (
      if (-9223372036854775808 ≤ x2 ∧ x2 ≤ 9223372036854775807) then (
      if x2 ≤ 0 then (
        some (false, s)) else (
        some (true, s))) else none) else (
      (gm_208 x4 s).bind fun q6 =>
      if (gb q6.1) = 0 then (
        gm_209_93 (gm_209_41 n) x1 x2 x4 q6.2) else (
        (gm_155 x1 x4 q6.2).bind fun q9 =>
        if (-2147483648 ≤ q9.1 ∧ q9.1 ≤ 2147483647) then (
        if (-2147483648 ≤ (q9.2.1 215 42) ∧ (q9.2.1 215 42) ≤ 2147483647) then (
        (gm_206 x4 q9.2).bind fun q13 =>
        if (-2147483648 ≤ q13.1 ∧ q13.1 ≤ 2147483647) then (
        if (-9223372036854775808 ≤ ((q9.1 * x2) - ((q9.2.1 215 42) * q13.1)) ∧ ((q9.1 * x2) - ((q9.2.1 215 42) * q13.1)) ≤ 9223372036854775807) then (
        gm_209_93 (gm_209_41 n) x1 x2 x4 (gw2 q13.2 215 40 ((q6.2.2 215 40) + (if 0 < ((q9.1 * x2) - ((q9.2.1 215 42) * q13.1)) then ((q9.1 * x2) - ((q9.2.1 215 42) * q13.1)) else -((q9.1 * x2) - ((q9.2.1 215 42) * q13.1)))))) else none) else none) else none) else none))) else none
theorem gf_209_41 : ∀ (n : Nat) (x1 : Int) (yx1 : Int32) (e1 : yx1 = Int32.ofInt x1) (x2 : Int) (yx2 : Int64) (e2 : yx2 = Int64.ofInt x2) (x4 : Int) (yx4 : Int32) (e4 : yx4 = Int32.ofInt x4) (s : gx_S) (σ : fx_S) (es : σ = gx s) (q : Bool × gx_S), gm_209_41 n x1 x2 x4 s = some q → fm_209_41 n yx1 yx2 yx4 σ = some (q.1, gx q.2) := by
  intro n
  induction n with
  | zero =>
    intro x1 yx1 e1 x2 yx2 e2 x4 yx4 e4 s σ es q  h
    rw [gm_209_41] at h
    exact fx_no h
  | succ n ih =>
    intro x1 yx1 e1 x2 yx2 e2 x4 yx4 e4 s σ es q  h
    rw [gm_209_41] at h
    rw [fm_209_41]
    obtain ⟨z1, h⟩ := fx_gd h
    by_cases c2 : 8 ≤ x4
    · rw [if_pos c2] at h
      refine gb_t ((gc_le kg_8 e4 (by decide) z1).mpr c2) ?_
      obtain ⟨z3, h⟩ := fx_gd h
      by_cases c4 : x2 ≤ 0
      · rw [if_pos c4] at h
        refine gb_t ((gcl_le e2 kgl_0 z3 (by decide)).mpr c4) ?_
        have h := Option.some.inj h
        subst h
        exact gretb es
      · rw [if_neg c4] at h
        refine gb_f (fun q => c4 ((gcl_le e2 kgl_0 z3 (by decide)).mp q)) ?_
        have h := Option.some.inj h
        subst h
        exact gretb es
    · rw [if_neg c2] at h
      refine gb_f (fun q => c2 ((gc_le kg_8 e4 (by decide) z1).mp q)) ?_
      obtain ⟨q6, w5, h⟩ := fx_bd h
      refine gb_bind (gf_208 e4 es w5) ?_
      by_cases c7 : (gb q6.1) = 0
      · rw [if_pos c7] at h
        refine gb_t ((gc_eq (gb_b q6.1) kg_0 (gb_r _) (by decide)).mpr c7) ?_
        exact gf_209_93 ih _ _ e1 _ _ e2 _ _ e4 _ _ (rfl : _ = gx q6.2) _ h
      · rw [if_neg c7] at h
        refine gb_f (fun q => c7 ((gc_eq (gb_b q6.1) kg_0 (gb_r _) (by decide)).mp q)) ?_
        obtain ⟨q9, w8, h⟩ := fx_bd h
        refine gb_bind (gf_155 e1 e4 (rfl : _ = gx q6.2) w8) ?_
        obtain ⟨z10, h⟩ := fx_gd h
        obtain ⟨z11, h⟩ := fx_gd h
        obtain ⟨q13, w12, h⟩ := fx_bd h
        refine gb_bind (gf_206 e4 (rfl : _ = gx q9.2) w12) ?_
        obtain ⟨z14, h⟩ := fx_gd h
        obtain ⟨z15, h⟩ := fx_gd h
        exact gf_209_93 ih _ _ e1 _ _ e2 _ _ e4 _ _ (gx_w2 (rfl : _ = gx q13.2) (gal_add (gf2 (rfl : _ = gx q6.2) 215 40) (gal_ite (gcl_lt kgl_0 (gal_sub (gal_mul (ga_i2l (gr q9.1) z10) e2) (gal_mul (ga_i2l (gf1 (rfl : _ = gx q9.2) 215 42) z11) (ga_i2l (gr q13.1) z14))) (by decide) z15) (gal_sub (gal_mul (ga_i2l (gr q9.1) z10) e2) (gal_mul (ga_i2l (gf1 (rfl : _ = gx q9.2) 215 42) z11) (ga_i2l (gr q13.1) z14))) (gal_neg (gal_sub (gal_mul (ga_i2l (gr q9.1) z10) e2) (gal_mul (ga_i2l (gf1 (rfl : _ = gx q9.2) 215 42) z11) (ga_i2l (gr q13.1) z14))))))) _ h
def gm_209_5 : Nat → Int → Int → Int → gx_S → Option (Bool × gx_S)
  | 0, _, _, _, _ => none
  | n + 1, x1, x2, x4, s =>
    if (-2147483648 ≤ x4 ∧ x4 ≤ 2147483647) then (
    if 8 ≤ x4 then (
      gm_209_41 100000 x1 x2 0 (gw2 (gw2 s 215 40 0) 215 41 x2)) else (
      (gm_206 x4 s).bind fun q4 =>
      if (-2147483648 ≤ q4.1 ∧ q4.1 ≤ 2147483647) then (
      gm_209_5 n x1 (x2 + q4.1) (x4 + 1) q4.2) else none)) else none
theorem gf_209_5 : ∀ (n : Nat) (x1 : Int) (yx1 : Int32) (e1 : yx1 = Int32.ofInt x1) (x2 : Int) (yx2 : Int64) (e2 : yx2 = Int64.ofInt x2) (x4 : Int) (yx4 : Int32) (e4 : yx4 = Int32.ofInt x4) (s : gx_S) (σ : fx_S) (es : σ = gx s) (q : Bool × gx_S), gm_209_5 n x1 x2 x4 s = some q → fm_209_5 n yx1 yx2 yx4 σ = some (q.1, gx q.2) := by
  intro n
  induction n with
  | zero =>
    intro x1 yx1 e1 x2 yx2 e2 x4 yx4 e4 s σ es q  h
    rw [gm_209_5] at h
    exact fx_no h
  | succ n ih =>
    intro x1 yx1 e1 x2 yx2 e2 x4 yx4 e4 s σ es q  h
    rw [gm_209_5] at h
    rw [fm_209_5]
    obtain ⟨z1, h⟩ := fx_gd h
    by_cases c2 : 8 ≤ x4
    · rw [if_pos c2] at h
      refine gb_t ((gc_le kg_8 e4 (by decide) z1).mpr c2) ?_
      exact gf_209_41 100000 _ _ e1 _ _ e2 _ _ kg_0 _ _ (gx_w2 (gx_w2 es kgl_0) e2) _ h
    · rw [if_neg c2] at h
      refine gb_f (fun q => c2 ((gc_le kg_8 e4 (by decide) z1).mp q)) ?_
      obtain ⟨q4, w3, h⟩ := fx_bd h
      refine gb_bind (gf_206 e4 es w3) ?_
      obtain ⟨z5, h⟩ := fx_gd h
      exact ih _ _ e1 _ _ (gal_add e2 (ga_i2l (gr q4.1) z5)) _ _ (ga_add e4 kg_1) _ _ (rfl : _ = gx q4.2) _ h
def gm_209 (x1 : Int) (s : gx_S) : Option (Bool × gx_S) :=
  gm_209_5 100000 x1 0 0 s
theorem gf_209 {x1 : Int} {yx1 : Int32} (e1 : yx1 = Int32.ofInt x1) {s : gx_S} {σ : fx_S} (es : σ = gx s) {q : Bool × gx_S} (h : gm_209 x1 s = some q) : fm_209 yx1 σ = some (q.1, gx q.2) := by
  unfold gm_209 at h
  unfold fm_209
  exact gf_209_5 100000 _ _ e1 _ _ kgl_0 _ _ kg_0 _ _ es _ h

/-! ZoneSharesModel.misfit(II)J -/
def gm_210_24 (s : gx_S) : Option (Int × gx_S) :=
  some ((-1), s)
theorem gf_210_24 (s : gx_S) (σ : fx_S) (es : σ = gx s) (q : Int × gx_S) (h : gm_210_24 s = some q) : fm_210_24 σ = some (Int64.ofInt q.1, gx q.2) := by
  unfold gm_210_24 at h
  unfold fm_210_24
  have h := Option.some.inj h
  subst h
  exact gretl kgl_m1 es
def gm_210_48 (s : gx_S) : Option (Int × gx_S) :=
  some ((-1), s)
theorem gf_210_48 (s : gx_S) (σ : fx_S) (es : σ = gx s) (q : Int × gx_S) (h : gm_210_48 s = some q) : fm_210_48 σ = some (Int64.ofInt q.1, gx q.2) := by
  unfold gm_210_48 at h
  unfold fm_210_48
  have h := Option.some.inj h
  subst h
  exact gretl kgl_m1 es
def gm_210 (x1 : Int) (x2 : Int) (s : gx_S) : Option (Int × gx_S) :=
  (gm_150 s).bind fun q21 =>
  if (gb q21.1) = 0 then (
    gm_210_24 q21.2) else (
    (gm_148 x1 q21.2).bind fun q24 =>
    if (gb q24.1) = 0 then (
      gm_210_24 q24.2) else (
      if (-2147483648 ≤ x2 ∧ x2 ≤ 2147483647) then (
      (gm_130 x2 0 1 q24.2).bind fun q28 =>
      if ¬ (gb q28.1) = 0 then (
        (gm_205 x1 q28.2).bind fun q31 =>
        if (-2147483648 ≤ (q31.1 215 42) ∧ (q31.1 215 42) ≤ 2147483647) then (
        if (q31.1 215 42) = 0 then (
          gm_210_48 q31) else (
          (gm_209 x1 q31).bind fun q35 =>
          if ¬ (gb q35.1) = 0 then (
            (gm_194 (q35.2.2 215 40) (q35.2.2 215 41) x2 q35.2).bind fun q38 =>
            some (q38.1, q38.2)) else (
            gm_210_48 q35.2))) else none) else (
        gm_210_24 q28.2)) else none))
theorem gf_210 {x1 : Int} {yx1 : Int32} (e1 : yx1 = Int32.ofInt x1) {x2 : Int} {yx2 : Int32} (e2 : yx2 = Int32.ofInt x2) {s : gx_S} {σ : fx_S} (es : σ = gx s) {q : Int × gx_S} (h : gm_210 x1 x2 s = some q) : fm_210 yx1 yx2 σ = some (Int64.ofInt q.1, gx q.2) := by
  unfold gm_210 at h
  unfold fm_210
  obtain ⟨q21, w20, h⟩ := fx_bd h
  refine gb_bind (gf_150 es w20) ?_
  by_cases c22 : (gb q21.1) = 0
  · rw [if_pos c22] at h
    refine gb_t ((gc_eq (gb_b q21.1) kg_0 (gb_r _) (by decide)).mpr c22) ?_
    exact gf_210_24 _ _ (rfl : _ = gx q21.2) _ h
  · rw [if_neg c22] at h
    refine gb_f (fun q => c22 ((gc_eq (gb_b q21.1) kg_0 (gb_r _) (by decide)).mp q)) ?_
    obtain ⟨q24, w23, h⟩ := fx_bd h
    refine gb_bind (gf_148 e1 (rfl : _ = gx q21.2) w23) ?_
    by_cases c25 : (gb q24.1) = 0
    · rw [if_pos c25] at h
      refine gb_t ((gc_eq (gb_b q24.1) kg_0 (gb_r _) (by decide)).mpr c25) ?_
      exact gf_210_24 _ _ (rfl : _ = gx q24.2) _ h
    · rw [if_neg c25] at h
      refine gb_f (fun q => c25 ((gc_eq (gb_b q24.1) kg_0 (gb_r _) (by decide)).mp q)) ?_
      obtain ⟨z26, h⟩ := fx_gd h
      obtain ⟨q28, w27, h⟩ := fx_bd h
      refine gb_bind (gf_130 (ga_i2l e2 z26) kgl_0 kgl_1 (rfl : _ = gx q24.2) w27) ?_
      by_cases c29 : ¬ (gb q28.1) = 0
      · rw [if_pos c29] at h
        refine gb_t ((gc_ne (gb_b q28.1) kg_0 (gb_r _) (by decide)).mpr c29) ?_
        obtain ⟨q31, w30, h⟩ := fx_bd h
        refine gb_bind (gf_205 e1 (rfl : _ = gx q28.2) w30) ?_
        obtain ⟨z32, h⟩ := fx_gd h
        by_cases c33 : (q31.1 215 42) = 0
        · rw [if_pos c33] at h
          refine gb_t ((gc_eq (gf1 (rfl : _ = gx q31) 215 42) kg_0 z32 (by decide)).mpr c33) ?_
          exact gf_210_48 _ _ (rfl : _ = gx q31) _ h
        · rw [if_neg c33] at h
          refine gb_f (fun q => c33 ((gc_eq (gf1 (rfl : _ = gx q31) 215 42) kg_0 z32 (by decide)).mp q)) ?_
          obtain ⟨q35, w34, h⟩ := fx_bd h
          refine gb_bind (gf_209 e1 (rfl : _ = gx q31) w34) ?_
          by_cases c36 : ¬ (gb q35.1) = 0
          · rw [if_pos c36] at h
            refine gb_t ((gc_ne (gb_b q35.1) kg_0 (gb_r _) (by decide)).mpr c36) ?_
            obtain ⟨q38, w37, h⟩ := fx_bd h
            refine gb_bind (gf_194 (gf2 (rfl : _ = gx q35.2) 215 40) (gf2 (rfl : _ = gx q35.2) 215 41) e2 (rfl : _ = gx q35.2) w37) ?_
            have h := Option.some.inj h
            subst h
            exact gretl (gr2 q38.1) (rfl : _ = gx q38.2)
          · rw [if_neg c36] at h
            refine gb_f (fun q => c36 ((gc_ne (gb_b q35.1) kg_0 (gb_r _) (by decide)).mp q)) ?_
            exact gf_210_48 _ _ (rfl : _ = gx q35.2) _ h
      · rw [if_neg c29] at h
        refine gb_f (fun q => c29 ((gc_ne (gb_b q28.1) kg_0 (gb_r _) (by decide)).mp q)) ?_
        exact gf_210_24 _ _ (rfl : _ = gx q28.2) _ h

/-! ZoneSharesModel.isWeight(III)Z -/
def gm_213_40 (k_3 : Int → Int → Int → Int → gx_S → Option (Bool × gx_S)) (x1 : Int) (x2 : Int) (x3 : Int) (x4 : Int) (s : gx_S) : Option (Bool × gx_S) :=
  k_3 x1 x2 x3 (x4 + 1) s
theorem gf_213_40 {kf_3 : Int32 → Int32 → Int32 → Int32 → fx_S → Option (Bool × fx_S)} {kg_3 : Int → Int → Int → Int → gx_S → Option (Bool × gx_S)} (hk_3 : ∀ (x1 : Int) (yx1 : Int32) (e1 : yx1 = Int32.ofInt x1) (x2 : Int) (yx2 : Int32) (e2 : yx2 = Int32.ofInt x2) (x3 : Int) (yx3 : Int32) (e3 : yx3 = Int32.ofInt x3) (x4 : Int) (yx4 : Int32) (e4 : yx4 = Int32.ofInt x4) (s : gx_S) (σ : fx_S) (es : σ = gx s) (q : Bool × gx_S), kg_3 x1 x2 x3 x4 s = some q → kf_3 yx1 yx2 yx3 yx4 σ = some (q.1, gx q.2)) (x1 : Int) (yx1 : Int32) (e1 : yx1 = Int32.ofInt x1) (x2 : Int) (yx2 : Int32) (e2 : yx2 = Int32.ofInt x2) (x3 : Int) (yx3 : Int32) (e3 : yx3 = Int32.ofInt x3) (x4 : Int) (yx4 : Int32) (e4 : yx4 = Int32.ofInt x4) (s : gx_S) (σ : fx_S) (es : σ = gx s) (q : Bool × gx_S) (h : gm_213_40 kg_3 x1 x2 x3 x4 s = some q) : fm_213_40 kf_3 yx1 yx2 yx3 yx4 σ = some (q.1, gx q.2) := by
  unfold gm_213_40 at h
  unfold fm_213_40
  exact hk_3 _ _ e1 _ _ e2 _ _ e3 _ _ (ga_add e4 kg_1) _ _ es _ h
def gm_213_20 (k_3 : Int → Int → Int → Int → gx_S → Option (Bool × gx_S)) (x1 : Int) (x2 : Int) (x3 : Int) (x4 : Int) (s : gx_S) : Option (Bool × gx_S) :=
  if 0 ≤ ((32 + (4 * x4)) + x2) ∧ ((32 + (4 * x4)) + x2) < 340 then (
  if (-2147483648 ≤ (s.1 216 (((32 + (4 * x4)) + x2)).toNat) ∧ (s.1 216 (((32 + (4 * x4)) + x2)).toNat) ≤ 2147483647) then (
  if (-2147483648 ≤ x3 ∧ x3 ≤ 2147483647) then (
  if (s.1 216 (((32 + (4 * x4)) + x2)).toNat) = x3 then (
    gm_213_40 k_3 x1 x2 x3 x4 s) else (
    some (false, s))) else none) else none) else none
theorem gf_213_20 {kf_3 : Int32 → Int32 → Int32 → Int32 → fx_S → Option (Bool × fx_S)} {kg_3 : Int → Int → Int → Int → gx_S → Option (Bool × gx_S)} (hk_3 : ∀ (x1 : Int) (yx1 : Int32) (e1 : yx1 = Int32.ofInt x1) (x2 : Int) (yx2 : Int32) (e2 : yx2 = Int32.ofInt x2) (x3 : Int) (yx3 : Int32) (e3 : yx3 = Int32.ofInt x3) (x4 : Int) (yx4 : Int32) (e4 : yx4 = Int32.ofInt x4) (s : gx_S) (σ : fx_S) (es : σ = gx s) (q : Bool × gx_S), kg_3 x1 x2 x3 x4 s = some q → kf_3 yx1 yx2 yx3 yx4 σ = some (q.1, gx q.2)) (x1 : Int) (yx1 : Int32) (e1 : yx1 = Int32.ofInt x1) (x2 : Int) (yx2 : Int32) (e2 : yx2 = Int32.ofInt x2) (x3 : Int) (yx3 : Int32) (e3 : yx3 = Int32.ofInt x3) (x4 : Int) (yx4 : Int32) (e4 : yx4 = Int32.ofInt x4) (s : gx_S) (σ : fx_S) (es : σ = gx s) (q : Bool × gx_S) (h : gm_213_20 kg_3 x1 x2 x3 x4 s = some q) : fm_213_20 kf_3 yx1 yx2 yx3 yx4 σ = some (q.1, gx q.2) := by
  unfold gm_213_20 at h
  unfold fm_213_20
  obtain ⟨z3, h⟩ := fx_gd h
  refine gb_bind (gl_ld es (ga_add (ga_add kg_32 (ga_mul kg_4 e4)) e2) ga_216 z3) ?_
  obtain ⟨z4, h⟩ := fx_gd h
  obtain ⟨z5, h⟩ := fx_gd h
  by_cases c6 : (s.1 216 (((32 + (4 * x4)) + x2)).toNat) = x3
  · rw [if_pos c6] at h
    refine gb_t ((gc_eq (gr (s.1 216 (((32 + (4 * x4)) + x2)).toNat)) e3 z4 z5).mpr c6) ?_
    exact gf_213_40 hk_3 _ _ e1 _ _ e2 _ _ e3 _ _ e4 _ _ es _ h
  · rw [if_neg c6] at h
    refine gb_f (fun q => c6 ((gc_eq (gr (s.1 216 (((32 + (4 * x4)) + x2)).toNat)) e3 z4 z5).mp q)) ?_
    have h := Option.some.inj h
    subst h
    exact gretb es
def gm_213_3 : Nat → Int → Int → Int → Int → gx_S → Option (Bool × gx_S)
  | 0, _, _, _, _, _ => none
  | n + 1, x1, x2, x3, x4, s =>
    if (-2147483648 ≤ x4 ∧ x4 ≤ 2147483647) then (
    if 3 ≤ x4 then (
      some (true, s)) else (
      if (-2147483648 ≤ x1 ∧ x1 ≤ 2147483647) then (
      if x1 = (-1) then (
        gm_213_20 (gm_213_3 n) x1 x2 x3 x4 s) else (
        if ¬ x1 = x4 then (
          gm_213_40 (gm_213_3 n) x1 x2 x3 x4 s) else (
          gm_213_20 (gm_213_3 n) x1 x2 x3 x4 s))) else none)) else none
theorem gf_213_3 : ∀ (n : Nat) (x1 : Int) (yx1 : Int32) (e1 : yx1 = Int32.ofInt x1) (x2 : Int) (yx2 : Int32) (e2 : yx2 = Int32.ofInt x2) (x3 : Int) (yx3 : Int32) (e3 : yx3 = Int32.ofInt x3) (x4 : Int) (yx4 : Int32) (e4 : yx4 = Int32.ofInt x4) (s : gx_S) (σ : fx_S) (es : σ = gx s) (q : Bool × gx_S), gm_213_3 n x1 x2 x3 x4 s = some q → fm_213_3 n yx1 yx2 yx3 yx4 σ = some (q.1, gx q.2) := by
  intro n
  induction n with
  | zero =>
    intro x1 yx1 e1 x2 yx2 e2 x3 yx3 e3 x4 yx4 e4 s σ es q  h
    rw [gm_213_3] at h
    exact fx_no h
  | succ n ih =>
    intro x1 yx1 e1 x2 yx2 e2 x3 yx3 e3 x4 yx4 e4 s σ es q  h
    rw [gm_213_3] at h
    rw [fm_213_3]
    obtain ⟨z1, h⟩ := fx_gd h
    by_cases c2 : 3 ≤ x4
    · rw [if_pos c2] at h
      refine gb_t ((gc_le kg_3 e4 (by decide) z1).mpr c2) ?_
      have h := Option.some.inj h
      subst h
      exact gretb es
    · rw [if_neg c2] at h
      refine gb_f (fun q => c2 ((gc_le kg_3 e4 (by decide) z1).mp q)) ?_
      obtain ⟨z3, h⟩ := fx_gd h
      by_cases c4 : x1 = (-1)
      · rw [if_pos c4] at h
        refine gb_t ((gc_eq e1 kg_m1 z3 (by decide)).mpr c4) ?_
        exact gf_213_20 ih _ _ e1 _ _ e2 _ _ e3 _ _ e4 _ _ es _ h
      · rw [if_neg c4] at h
        refine gb_f (fun q => c4 ((gc_eq e1 kg_m1 z3 (by decide)).mp q)) ?_
        by_cases c5 : ¬ x1 = x4
        · rw [if_pos c5] at h
          refine gb_t ((gc_ne e1 e4 z3 z1).mpr c5) ?_
          exact gf_213_40 ih _ _ e1 _ _ e2 _ _ e3 _ _ e4 _ _ es _ h
        · rw [if_neg c5] at h
          refine gb_f (fun q => c5 ((gc_ne e1 e4 z3 z1).mp q)) ?_
          exact gf_213_20 ih _ _ e1 _ _ e2 _ _ e3 _ _ e4 _ _ es _ h
def gm_213 (x1 : Int) (x2 : Int) (x3 : Int) (s : gx_S) : Option (Bool × gx_S) :=
  gm_213_3 100000 x1 x2 x3 0 s
theorem gf_213 {x1 : Int} {yx1 : Int32} (e1 : yx1 = Int32.ofInt x1) {x2 : Int} {yx2 : Int32} (e2 : yx2 = Int32.ofInt x2) {x3 : Int} {yx3 : Int32} (e3 : yx3 = Int32.ofInt x3) {s : gx_S} {σ : fx_S} (es : σ = gx s) {q : Bool × gx_S} (h : gm_213 x1 x2 x3 s = some q) : fm_213 yx1 yx2 yx3 σ = some (q.1, gx q.2) := by
  unfold gm_213 at h
  unfold fm_213
  exact gf_213_3 100000 _ _ e1 _ _ e2 _ _ e3 _ _ kg_0 _ _ es _ h

/-! ZoneSharesModel.weigh(III)I -/
def gm_214_111 (k_79 : Int → Int → Int → Int → Int → gx_S → Option (Int × gx_S)) (x1 : Int) (x2 : Int) (x3 : Int) (x4 : Int) (x5 : Int) (s : gx_S) : Option (Int × gx_S) :=
  k_79 x1 x2 x3 x4 (x5 + 1) s
theorem gf_214_111 {kf_79 : Int32 → Int32 → Int32 → Int32 → Int32 → fx_S → Option (Int32 × fx_S)} {kg_79 : Int → Int → Int → Int → Int → gx_S → Option (Int × gx_S)} (hk_79 : ∀ (x1 : Int) (yx1 : Int32) (e1 : yx1 = Int32.ofInt x1) (x2 : Int) (yx2 : Int32) (e2 : yx2 = Int32.ofInt x2) (x3 : Int) (yx3 : Int32) (e3 : yx3 = Int32.ofInt x3) (x4 : Int) (yx4 : Int32) (e4 : yx4 = Int32.ofInt x4) (x5 : Int) (yx5 : Int32) (e5 : yx5 = Int32.ofInt x5) (s : gx_S) (σ : fx_S) (es : σ = gx s) (q : Int × gx_S), kg_79 x1 x2 x3 x4 x5 s = some q → kf_79 yx1 yx2 yx3 yx4 yx5 σ = some (Int32.ofInt q.1, gx q.2)) (x1 : Int) (yx1 : Int32) (e1 : yx1 = Int32.ofInt x1) (x2 : Int) (yx2 : Int32) (e2 : yx2 = Int32.ofInt x2) (x3 : Int) (yx3 : Int32) (e3 : yx3 = Int32.ofInt x3) (x4 : Int) (yx4 : Int32) (e4 : yx4 = Int32.ofInt x4) (x5 : Int) (yx5 : Int32) (e5 : yx5 = Int32.ofInt x5) (s : gx_S) (σ : fx_S) (es : σ = gx s) (q : Int × gx_S) (h : gm_214_111 kg_79 x1 x2 x3 x4 x5 s = some q) : fm_214_111 kf_79 yx1 yx2 yx3 yx4 yx5 σ = some (Int32.ofInt q.1, gx q.2) := by
  unfold gm_214_111 at h
  unfold fm_214_111
  exact hk_79 _ _ e1 _ _ e2 _ _ e3 _ _ e4 _ _ (ga_add e5 kg_1) _ _ es _ h
def gm_214_96 (k_79 : Int → Int → Int → Int → Int → gx_S → Option (Int × gx_S)) (x1 : Int) (x2 : Int) (x3 : Int) (x4 : Int) (x5 : Int) (s : gx_S) : Option (Int × gx_S) :=
  if 0 ≤ ((32 + (4 * x5)) + x2) ∧ ((32 + (4 * x5)) + x2) < 340 then (
  gm_214_111 k_79 x1 x2 x3 x4 x5 (gw1 s 216 (((32 + (4 * x5)) + x2)).toNat x3)) else none
theorem gf_214_96 {kf_79 : Int32 → Int32 → Int32 → Int32 → Int32 → fx_S → Option (Int32 × fx_S)} {kg_79 : Int → Int → Int → Int → Int → gx_S → Option (Int × gx_S)} (hk_79 : ∀ (x1 : Int) (yx1 : Int32) (e1 : yx1 = Int32.ofInt x1) (x2 : Int) (yx2 : Int32) (e2 : yx2 = Int32.ofInt x2) (x3 : Int) (yx3 : Int32) (e3 : yx3 = Int32.ofInt x3) (x4 : Int) (yx4 : Int32) (e4 : yx4 = Int32.ofInt x4) (x5 : Int) (yx5 : Int32) (e5 : yx5 = Int32.ofInt x5) (s : gx_S) (σ : fx_S) (es : σ = gx s) (q : Int × gx_S), kg_79 x1 x2 x3 x4 x5 s = some q → kf_79 yx1 yx2 yx3 yx4 yx5 σ = some (Int32.ofInt q.1, gx q.2)) (x1 : Int) (yx1 : Int32) (e1 : yx1 = Int32.ofInt x1) (x2 : Int) (yx2 : Int32) (e2 : yx2 = Int32.ofInt x2) (x3 : Int) (yx3 : Int32) (e3 : yx3 = Int32.ofInt x3) (x4 : Int) (yx4 : Int32) (e4 : yx4 = Int32.ofInt x4) (x5 : Int) (yx5 : Int32) (e5 : yx5 = Int32.ofInt x5) (s : gx_S) (σ : fx_S) (es : σ = gx s) (q : Int × gx_S) (h : gm_214_96 kg_79 x1 x2 x3 x4 x5 s = some q) : fm_214_96 kf_79 yx1 yx2 yx3 yx4 yx5 σ = some (Int32.ofInt q.1, gx q.2) := by
  unfold gm_214_96 at h
  unfold fm_214_96
  obtain ⟨z3, h⟩ := fx_gd h
  refine gb_bind (gl_st es (ga_add (ga_add kg_32 (ga_mul kg_4 e5)) e2) e3 ga_216 z3) ?_
  exact gf_214_111 hk_79 _ _ e1 _ _ e2 _ _ e3 _ _ e4 _ _ e5 _ _ (rfl : _ = gx (gw1 s 216 (((32 + (4 * x5)) + x2)).toNat x3)) _ h
def gm_214_79 : Nat → Int → Int → Int → Int → Int → gx_S → Option (Int × gx_S)
  | 0, _, _, _, _, _, _ => none
  | n + 1, x1, x2, x3, x4, x5, s =>
    if (-2147483648 ≤ x5 ∧ x5 ≤ 2147483647) then (
    if 3 ≤ x5 then (
      some (x4, s)) else (
      if (-2147483648 ≤ x1 ∧ x1 ≤ 2147483647) then (
      if x1 = (-1) then (
        gm_214_96 (gm_214_79 n) x1 x2 x3 x4 x5 s) else (
        if ¬ x1 = x5 then (
          gm_214_111 (gm_214_79 n) x1 x2 x3 x4 x5 s) else (
          gm_214_96 (gm_214_79 n) x1 x2 x3 x4 x5 s))) else none)) else none
theorem gf_214_79 : ∀ (n : Nat) (x1 : Int) (yx1 : Int32) (e1 : yx1 = Int32.ofInt x1) (x2 : Int) (yx2 : Int32) (e2 : yx2 = Int32.ofInt x2) (x3 : Int) (yx3 : Int32) (e3 : yx3 = Int32.ofInt x3) (x4 : Int) (yx4 : Int32) (e4 : yx4 = Int32.ofInt x4) (x5 : Int) (yx5 : Int32) (e5 : yx5 = Int32.ofInt x5) (s : gx_S) (σ : fx_S) (es : σ = gx s) (q : Int × gx_S), gm_214_79 n x1 x2 x3 x4 x5 s = some q → fm_214_79 n yx1 yx2 yx3 yx4 yx5 σ = some (Int32.ofInt q.1, gx q.2) := by
  intro n
  induction n with
  | zero =>
    intro x1 yx1 e1 x2 yx2 e2 x3 yx3 e3 x4 yx4 e4 x5 yx5 e5 s σ es q  h
    rw [gm_214_79] at h
    exact fx_no h
  | succ n ih =>
    intro x1 yx1 e1 x2 yx2 e2 x3 yx3 e3 x4 yx4 e4 x5 yx5 e5 s σ es q  h
    rw [gm_214_79] at h
    rw [fm_214_79]
    obtain ⟨z1, h⟩ := fx_gd h
    by_cases c2 : 3 ≤ x5
    · rw [if_pos c2] at h
      refine gb_t ((gc_le kg_3 e5 (by decide) z1).mpr c2) ?_
      have h := Option.some.inj h
      subst h
      exact gret e4 es
    · rw [if_neg c2] at h
      refine gb_f (fun q => c2 ((gc_le kg_3 e5 (by decide) z1).mp q)) ?_
      obtain ⟨z3, h⟩ := fx_gd h
      by_cases c4 : x1 = (-1)
      · rw [if_pos c4] at h
        refine gb_t ((gc_eq e1 kg_m1 z3 (by decide)).mpr c4) ?_
        exact gf_214_96 ih _ _ e1 _ _ e2 _ _ e3 _ _ e4 _ _ e5 _ _ es _ h
      · rw [if_neg c4] at h
        refine gb_f (fun q => c4 ((gc_eq e1 kg_m1 z3 (by decide)).mp q)) ?_
        by_cases c5 : ¬ x1 = x5
        · rw [if_pos c5] at h
          refine gb_t ((gc_ne e1 e5 z3 z1).mpr c5) ?_
          exact gf_214_111 ih _ _ e1 _ _ e2 _ _ e3 _ _ e4 _ _ e5 _ _ es _ h
        · rw [if_neg c5] at h
          refine gb_f (fun q => c5 ((gc_ne e1 e5 z3 z1).mp q)) ?_
          exact gf_214_96 ih _ _ e1 _ _ e2 _ _ e3 _ _ e4 _ _ e5 _ _ es _ h
def gm_214 (x1 : Int) (x2 : Int) (x3 : Int) (s : gx_S) : Option (Int × gx_S) :=
  if (-2147483648 ≤ x1 ∧ x1 ≤ 2147483647) then (
  (gm_130 x1 (-1) 2 s).bind fun q31 =>
  if (gb q31.1) = 0 then (
    some ((-1), q31.2)) else (
    if (-2147483648 ≤ x2 ∧ x2 ≤ 2147483647) then (
    (gm_130 x2 0 3 q31.2).bind fun q35 =>
    if (gb q35.1) = 0 then (
      some ((-1), q35.2)) else (
      if (-2147483648 ≤ x3 ∧ x3 ≤ 2147483647) then (
      (gm_130 x3 0 9 q35.2).bind fun q39 =>
      if ¬ (gb q39.1) = 0 then (
        (gm_213 x1 x2 x3 q39.2).bind fun q42 =>
        if (gb q42.1) = 0 then (
          (gm_132 q42.2).bind fun q45 =>
          if 0 ≤ ((32 + (4 * (if 0 < x1 then x1 else 0))) + x2) ∧ ((32 + (4 * (if 0 < x1 then x1 else 0))) + x2) < 340 then (
          gm_214_79 100000 x1 x2 x3 (q45.1 216 (((32 + (4 * (if 0 < x1 then x1 else 0))) + x2)).toNat) 0 q45) else none) else (
          some ((-2), q42.2))) else (
        some ((-1), q39.2))) else none)) else none)) else none
theorem gf_214 {x1 : Int} {yx1 : Int32} (e1 : yx1 = Int32.ofInt x1) {x2 : Int} {yx2 : Int32} (e2 : yx2 = Int32.ofInt x2) {x3 : Int} {yx3 : Int32} (e3 : yx3 = Int32.ofInt x3) {s : gx_S} {σ : fx_S} (es : σ = gx s) {q : Int × gx_S} (h : gm_214 x1 x2 x3 s = some q) : fm_214 yx1 yx2 yx3 σ = some (Int32.ofInt q.1, gx q.2) := by
  unfold gm_214 at h
  unfold fm_214
  obtain ⟨z29, h⟩ := fx_gd h
  obtain ⟨q31, w30, h⟩ := fx_bd h
  refine gb_bind (gf_130 (ga_i2l e1 z29) kgl_m1 kgl_2 es w30) ?_
  by_cases c32 : (gb q31.1) = 0
  · rw [if_pos c32] at h
    refine gb_t ((gc_eq (gb_b q31.1) kg_0 (gb_r _) (by decide)).mpr c32) ?_
    have h := Option.some.inj h
    subst h
    exact gret kg_m1 (rfl : _ = gx q31.2)
  · rw [if_neg c32] at h
    refine gb_f (fun q => c32 ((gc_eq (gb_b q31.1) kg_0 (gb_r _) (by decide)).mp q)) ?_
    obtain ⟨z33, h⟩ := fx_gd h
    obtain ⟨q35, w34, h⟩ := fx_bd h
    refine gb_bind (gf_130 (ga_i2l e2 z33) kgl_0 kgl_3 (rfl : _ = gx q31.2) w34) ?_
    by_cases c36 : (gb q35.1) = 0
    · rw [if_pos c36] at h
      refine gb_t ((gc_eq (gb_b q35.1) kg_0 (gb_r _) (by decide)).mpr c36) ?_
      have h := Option.some.inj h
      subst h
      exact gret kg_m1 (rfl : _ = gx q35.2)
    · rw [if_neg c36] at h
      refine gb_f (fun q => c36 ((gc_eq (gb_b q35.1) kg_0 (gb_r _) (by decide)).mp q)) ?_
      obtain ⟨z37, h⟩ := fx_gd h
      obtain ⟨q39, w38, h⟩ := fx_bd h
      refine gb_bind (gf_130 (ga_i2l e3 z37) kgl_0 kgl_9 (rfl : _ = gx q35.2) w38) ?_
      by_cases c40 : ¬ (gb q39.1) = 0
      · rw [if_pos c40] at h
        refine gb_t ((gc_ne (gb_b q39.1) kg_0 (gb_r _) (by decide)).mpr c40) ?_
        obtain ⟨q42, w41, h⟩ := fx_bd h
        refine gb_bind (gf_213 e1 e2 e3 (rfl : _ = gx q39.2) w41) ?_
        by_cases c43 : (gb q42.1) = 0
        · rw [if_pos c43] at h
          refine gb_t ((gc_eq (gb_b q42.1) kg_0 (gb_r _) (by decide)).mpr c43) ?_
          obtain ⟨q45, w44, h⟩ := fx_bd h
          refine gb_bind (gf_132 (rfl : _ = gx q42.2) w44) ?_
          obtain ⟨z48, h⟩ := fx_gd h
          refine gb_bind (gl_ld (rfl : _ = gx q45) (ga_add (ga_add kg_32 (ga_mul kg_4 (ga_gt_ite kg_0 e1 (by decide) z29))) e2) ga_216 z48) ?_
          exact gf_214_79 100000 _ _ e1 _ _ e2 _ _ e3 _ _ (gr (q45.1 216 (((32 + (4 * (if 0 < x1 then x1 else 0))) + x2)).toNat)) _ _ kg_0 _ _ (rfl : _ = gx q45) _ h
        · rw [if_neg c43] at h
          refine gb_f (fun q => c43 ((gc_eq (gb_b q42.1) kg_0 (gb_r _) (by decide)).mp q)) ?_
          have h := Option.some.inj h
          subst h
          exact gret kg_m2 (rfl : _ = gx q42.2)
      · rw [if_neg c40] at h
        refine gb_f (fun q => c40 ((gc_ne (gb_b q39.1) kg_0 (gb_r _) (by decide)).mp q)) ?_
        have h := Option.some.inj h
        subst h
        exact gret kg_m1 (rfl : _ = gx q39.2)

/-! ZoneSharesModel.settle(II)I -/
def gm_215 (x1 : Int) (x2 : Int) (s : gx_S) : Option (Int × gx_S) :=
  if (-2147483648 ≤ x1 ∧ x1 ≤ 2147483647) then (
  (gm_130 x1 0 1 s).bind fun q20 =>
  if (gb q20.1) = 0 then (
    some ((-1), q20.2)) else (
    if (-2147483648 ≤ x2 ∧ x2 ≤ 2147483647) then (
    (gm_130 x2 0 1 q20.2).bind fun q24 =>
    if ¬ (gb q24.1) = 0 then (
      if 0 ≤ (3 + x1) ∧ (3 + x1) < 340 then (
      if (-2147483648 ≤ (q24.2.1 216 ((3 + x1)).toNat) ∧ (q24.2.1 216 ((3 + x1)).toNat) ≤ 2147483647) then (
      if ¬ (q24.2.1 216 ((3 + x1)).toNat) = x2 then (
        (gm_132 q24.2).bind fun q32 =>
        some ((q24.2.1 216 ((3 + x1)).toNat), (gw1 q32 216 ((3 + x1)).toNat x2))) else (
        some ((-2), q24.2))) else none) else none) else (
      some ((-1), q24.2))) else none)) else none
theorem gf_215 {x1 : Int} {yx1 : Int32} (e1 : yx1 = Int32.ofInt x1) {x2 : Int} {yx2 : Int32} (e2 : yx2 = Int32.ofInt x2) {s : gx_S} {σ : fx_S} (es : σ = gx s) {q : Int × gx_S} (h : gm_215 x1 x2 s = some q) : fm_215 yx1 yx2 σ = some (Int32.ofInt q.1, gx q.2) := by
  unfold gm_215 at h
  unfold fm_215
  obtain ⟨z18, h⟩ := fx_gd h
  obtain ⟨q20, w19, h⟩ := fx_bd h
  refine gb_bind (gf_130 (ga_i2l e1 z18) kgl_0 kgl_1 es w19) ?_
  by_cases c21 : (gb q20.1) = 0
  · rw [if_pos c21] at h
    refine gb_t ((gc_eq (gb_b q20.1) kg_0 (gb_r _) (by decide)).mpr c21) ?_
    have h := Option.some.inj h
    subst h
    exact gret kg_m1 (rfl : _ = gx q20.2)
  · rw [if_neg c21] at h
    refine gb_f (fun q => c21 ((gc_eq (gb_b q20.1) kg_0 (gb_r _) (by decide)).mp q)) ?_
    obtain ⟨z22, h⟩ := fx_gd h
    obtain ⟨q24, w23, h⟩ := fx_bd h
    refine gb_bind (gf_130 (ga_i2l e2 z22) kgl_0 kgl_1 (rfl : _ = gx q20.2) w23) ?_
    by_cases c25 : ¬ (gb q24.1) = 0
    · rw [if_pos c25] at h
      refine gb_t ((gc_ne (gb_b q24.1) kg_0 (gb_r _) (by decide)).mpr c25) ?_
      obtain ⟨z28, h⟩ := fx_gd h
      refine gb_bind (gl_ld (rfl : _ = gx q24.2) (ga_add kg_3 e1) ga_216 z28) ?_
      obtain ⟨z29, h⟩ := fx_gd h
      by_cases c30 : ¬ (q24.2.1 216 ((3 + x1)).toNat) = x2
      · rw [if_pos c30] at h
        refine gb_t ((gc_ne (gr (q24.2.1 216 ((3 + x1)).toNat)) e2 z29 z22).mpr c30) ?_
        obtain ⟨q32, w31, h⟩ := fx_bd h
        refine gb_bind (gf_132 (rfl : _ = gx q24.2) w31) ?_
        refine gb_bind (gl_st (rfl : _ = gx q32) (ga_add kg_3 e1) e2 ga_216 z28) ?_
        have h := Option.some.inj h
        subst h
        exact gret (gr (q24.2.1 216 ((3 + x1)).toNat)) (rfl : _ = gx (gw1 q32 216 ((3 + x1)).toNat x2))
      · rw [if_neg c30] at h
        refine gb_f (fun q => c30 ((gc_ne (gr (q24.2.1 216 ((3 + x1)).toNat)) e2 z29 z22).mp q)) ?_
        have h := Option.some.inj h
        subst h
        exact gret kg_m2 (rfl : _ = gx q24.2)
    · rw [if_neg c25] at h
      refine gb_f (fun q => c25 ((gc_ne (gb_b q24.1) kg_0 (gb_r _) (by decide)).mp q)) ?_
      have h := Option.some.inj h
      subst h
      exact gret kg_m1 (rfl : _ = gx q24.2)

/-! ZoneSharesModel.district(II)I -/
def gm_216 (x1 : Int) (x2 : Int) (s : gx_S) : Option (Int × gx_S) :=
  if (-2147483648 ≤ x1 ∧ x1 ≤ 2147483647) then (
  (gm_130 x1 0 7 s).bind fun q20 =>
  if (gb q20.1) = 0 then (
    some ((-1), q20.2)) else (
    if (-2147483648 ≤ x2 ∧ x2 ≤ 2147483647) then (
    (gm_130 x2 0 3 q20.2).bind fun q24 =>
    if ¬ (gb q24.1) = 0 then (
      if 0 ≤ (44 + x1) ∧ (44 + x1) < 340 then (
      if (-2147483648 ≤ (q24.2.1 216 ((44 + x1)).toNat) ∧ (q24.2.1 216 ((44 + x1)).toNat) ≤ 2147483647) then (
      if ¬ (q24.2.1 216 ((44 + x1)).toNat) = x2 then (
        (gm_132 q24.2).bind fun q32 =>
        some ((q24.2.1 216 ((44 + x1)).toNat), (gw1 q32 216 ((44 + x1)).toNat x2))) else (
        some ((-2), q24.2))) else none) else none) else (
      some ((-1), q24.2))) else none)) else none
theorem gf_216 {x1 : Int} {yx1 : Int32} (e1 : yx1 = Int32.ofInt x1) {x2 : Int} {yx2 : Int32} (e2 : yx2 = Int32.ofInt x2) {s : gx_S} {σ : fx_S} (es : σ = gx s) {q : Int × gx_S} (h : gm_216 x1 x2 s = some q) : fm_216 yx1 yx2 σ = some (Int32.ofInt q.1, gx q.2) := by
  unfold gm_216 at h
  unfold fm_216
  obtain ⟨z18, h⟩ := fx_gd h
  obtain ⟨q20, w19, h⟩ := fx_bd h
  refine gb_bind (gf_130 (ga_i2l e1 z18) kgl_0 kgl_7 es w19) ?_
  by_cases c21 : (gb q20.1) = 0
  · rw [if_pos c21] at h
    refine gb_t ((gc_eq (gb_b q20.1) kg_0 (gb_r _) (by decide)).mpr c21) ?_
    have h := Option.some.inj h
    subst h
    exact gret kg_m1 (rfl : _ = gx q20.2)
  · rw [if_neg c21] at h
    refine gb_f (fun q => c21 ((gc_eq (gb_b q20.1) kg_0 (gb_r _) (by decide)).mp q)) ?_
    obtain ⟨z22, h⟩ := fx_gd h
    obtain ⟨q24, w23, h⟩ := fx_bd h
    refine gb_bind (gf_130 (ga_i2l e2 z22) kgl_0 kgl_3 (rfl : _ = gx q20.2) w23) ?_
    by_cases c25 : ¬ (gb q24.1) = 0
    · rw [if_pos c25] at h
      refine gb_t ((gc_ne (gb_b q24.1) kg_0 (gb_r _) (by decide)).mpr c25) ?_
      obtain ⟨z28, h⟩ := fx_gd h
      refine gb_bind (gl_ld (rfl : _ = gx q24.2) (ga_add kg_44 e1) ga_216 z28) ?_
      obtain ⟨z29, h⟩ := fx_gd h
      by_cases c30 : ¬ (q24.2.1 216 ((44 + x1)).toNat) = x2
      · rw [if_pos c30] at h
        refine gb_t ((gc_ne (gr (q24.2.1 216 ((44 + x1)).toNat)) e2 z29 z22).mpr c30) ?_
        obtain ⟨q32, w31, h⟩ := fx_bd h
        refine gb_bind (gf_132 (rfl : _ = gx q24.2) w31) ?_
        refine gb_bind (gl_st (rfl : _ = gx q32) (ga_add kg_44 e1) e2 ga_216 z28) ?_
        have h := Option.some.inj h
        subst h
        exact gret (gr (q24.2.1 216 ((44 + x1)).toNat)) (rfl : _ = gx (gw1 q32 216 ((44 + x1)).toNat x2))
      · rw [if_neg c30] at h
        refine gb_f (fun q => c30 ((gc_ne (gr (q24.2.1 216 ((44 + x1)).toNat)) e2 z29 z22).mp q)) ?_
        have h := Option.some.inj h
        subst h
        exact gret kg_m2 (rfl : _ = gx q24.2)
    · rw [if_neg c25] at h
      refine gb_f (fun q => c25 ((gc_ne (gb_b q24.1) kg_0 (gb_r _) (by decide)).mp q)) ?_
      have h := Option.some.inj h
      subst h
      exact gret kg_m1 (rfl : _ = gx q24.2)

/-! ZoneSharesModel.cell(III)I -/
def gm_218 (x1 : Int) (x2 : Int) (x3 : Int) (s : gx_S) : Option (Int × gx_S) :=
  if (-2147483648 ≤ x1 ∧ x1 ≤ 2147483647) then (
  (gm_130 x1 0 2 s).bind fun q19 =>
  if (gb q19.1) = 0 then (
    some ((-1), q19.2)) else (
    (gm_144 x1 q19.2).bind fun q22 =>
    if (gb q22.1) = 0 then (
      some ((-1), q22.2)) else (
      (gm_198 x2 x3 q22.2).bind fun q25 =>
      if ¬ (gb q25.1) = 0 then (
        if 0 ≤ (((52 + (96 * x1)) + (12 * x2)) + x3) ∧ (((52 + (96 * x1)) + (12 * x2)) + x3) < 340 then (
        if ¬ x1 = 2 then (
          if (-2147483648 ≤ (q25.2.1 216 ((((52 + (96 * x1)) + (12 * x2)) + x3)).toNat) ∧ (q25.2.1 216 ((((52 + (96 * x1)) + (12 * x2)) + x3)).toNat) ≤ 2147483647) then (
          if ¬ (q25.2.1 216 ((((52 + (96 * x1)) + (12 * x2)) + x3)).toNat) = 8 then (
            some ((97 + (q25.2.1 216 ((((52 + (96 * x1)) + (12 * x2)) + x3)).toNat)), q25.2)) else (
            some (46, q25.2))) else none) else (
          some ((48 + (q25.2.1 216 ((((52 + (96 * x1)) + (12 * x2)) + x3)).toNat)), q25.2))) else none) else (
        some ((-1), q25.2))))) else none
theorem gf_218 {x1 : Int} {yx1 : Int32} (e1 : yx1 = Int32.ofInt x1) {x2 : Int} {yx2 : Int32} (e2 : yx2 = Int32.ofInt x2) {x3 : Int} {yx3 : Int32} (e3 : yx3 = Int32.ofInt x3) {s : gx_S} {σ : fx_S} (es : σ = gx s) {q : Int × gx_S} (h : gm_218 x1 x2 x3 s = some q) : fm_218 yx1 yx2 yx3 σ = some (Int32.ofInt q.1, gx q.2) := by
  unfold gm_218 at h
  unfold fm_218
  obtain ⟨z17, h⟩ := fx_gd h
  obtain ⟨q19, w18, h⟩ := fx_bd h
  refine gb_bind (gf_130 (ga_i2l e1 z17) kgl_0 kgl_2 es w18) ?_
  by_cases c20 : (gb q19.1) = 0
  · rw [if_pos c20] at h
    refine gb_t ((gc_eq (gb_b q19.1) kg_0 (gb_r _) (by decide)).mpr c20) ?_
    have h := Option.some.inj h
    subst h
    exact gret kg_m1 (rfl : _ = gx q19.2)
  · rw [if_neg c20] at h
    refine gb_f (fun q => c20 ((gc_eq (gb_b q19.1) kg_0 (gb_r _) (by decide)).mp q)) ?_
    obtain ⟨q22, w21, h⟩ := fx_bd h
    refine gb_bind (gf_144 e1 (rfl : _ = gx q19.2) w21) ?_
    by_cases c23 : (gb q22.1) = 0
    · rw [if_pos c23] at h
      refine gb_t ((gc_eq (gb_b q22.1) kg_0 (gb_r _) (by decide)).mpr c23) ?_
      have h := Option.some.inj h
      subst h
      exact gret kg_m1 (rfl : _ = gx q22.2)
    · rw [if_neg c23] at h
      refine gb_f (fun q => c23 ((gc_eq (gb_b q22.1) kg_0 (gb_r _) (by decide)).mp q)) ?_
      obtain ⟨q25, w24, h⟩ := fx_bd h
      refine gb_bind (gf_198 e2 e3 (rfl : _ = gx q22.2) w24) ?_
      by_cases c26 : ¬ (gb q25.1) = 0
      · rw [if_pos c26] at h
        refine gb_t ((gc_ne (gb_b q25.1) kg_0 (gb_r _) (by decide)).mpr c26) ?_
        obtain ⟨z29, h⟩ := fx_gd h
        refine gb_bind (gl_ld (rfl : _ = gx q25.2) (ga_add (ga_add (ga_add kg_52 (ga_mul kg_96 e1)) (ga_mul kg_12 e2)) e3) ga_216 z29) ?_
        by_cases c30 : ¬ x1 = 2
        · rw [if_pos c30] at h
          refine gb_t ((gc_ne e1 kg_2 z17 (by decide)).mpr c30) ?_
          obtain ⟨z31, h⟩ := fx_gd h
          by_cases c32 : ¬ (q25.2.1 216 ((((52 + (96 * x1)) + (12 * x2)) + x3)).toNat) = 8
          · rw [if_pos c32] at h
            refine gb_t ((gc_ne (gr (q25.2.1 216 ((((52 + (96 * x1)) + (12 * x2)) + x3)).toNat)) kg_8 z31 (by decide)).mpr c32) ?_
            have h := Option.some.inj h
            subst h
            exact gret (ga_add kg_97 (gr (q25.2.1 216 ((((52 + (96 * x1)) + (12 * x2)) + x3)).toNat))) (rfl : _ = gx q25.2)
          · rw [if_neg c32] at h
            refine gb_f (fun q => c32 ((gc_ne (gr (q25.2.1 216 ((((52 + (96 * x1)) + (12 * x2)) + x3)).toNat)) kg_8 z31 (by decide)).mp q)) ?_
            have h := Option.some.inj h
            subst h
            exact gret kg_46 (rfl : _ = gx q25.2)
        · rw [if_neg c30] at h
          refine gb_f (fun q => c30 ((gc_ne e1 kg_2 z17 (by decide)).mp q)) ?_
          have h := Option.some.inj h
          subst h
          exact gret (ga_add kg_48 (gr (q25.2.1 216 ((((52 + (96 * x1)) + (12 * x2)) + x3)).toNat))) (rfl : _ = gx q25.2)
      · rw [if_neg c26] at h
        refine gb_f (fun q => c26 ((gc_ne (gb_b q25.1) kg_0 (gb_r _) (by decide)).mp q)) ?_
        have h := Option.some.inj h
        subst h
        exact gret kg_m1 (rfl : _ = gx q25.2)

/-! ZoneSharesModel.pieceCells(III)I -/
def gm_219_55 (k_6 : Int → Int → Int → Int → Int → gx_S → Option (Int × gx_S)) (x1 : Int) (x2 : Int) (x3 : Int) (x5 : Int) (s0 : Int) (s1 : Int) (s : gx_S) : Option (Int × gx_S) :=
  (gm_131 s1 s).bind fun q2 =>
  k_6 x1 x2 x3 (s0 + q2.1) (x5 + 1) q2.2
theorem gf_219_55 {kf_6 : Int32 → Int32 → Int32 → Int32 → Int32 → fx_S → Option (Int32 × fx_S)} {kg_6 : Int → Int → Int → Int → Int → gx_S → Option (Int × gx_S)} (hk_6 : ∀ (x1 : Int) (yx1 : Int32) (e1 : yx1 = Int32.ofInt x1) (x2 : Int) (yx2 : Int32) (e2 : yx2 = Int32.ofInt x2) (x3 : Int) (yx3 : Int32) (e3 : yx3 = Int32.ofInt x3) (x4 : Int) (yx4 : Int32) (e4 : yx4 = Int32.ofInt x4) (x5 : Int) (yx5 : Int32) (e5 : yx5 = Int32.ofInt x5) (s : gx_S) (σ : fx_S) (es : σ = gx s) (q : Int × gx_S), kg_6 x1 x2 x3 x4 x5 s = some q → kf_6 yx1 yx2 yx3 yx4 yx5 σ = some (Int32.ofInt q.1, gx q.2)) (x1 : Int) (yx1 : Int32) (e1 : yx1 = Int32.ofInt x1) (x2 : Int) (yx2 : Int32) (e2 : yx2 = Int32.ofInt x2) (x3 : Int) (yx3 : Int32) (e3 : yx3 = Int32.ofInt x3) (x5 : Int) (yx5 : Int32) (e5 : yx5 = Int32.ofInt x5) (s0 : Int) (ys0 : Int32) (es0 : ys0 = Int32.ofInt s0) (s1 : Int) (ys1 : Int32) (es1 : ys1 = Int32.ofInt s1) (s : gx_S) (σ : fx_S) (es : σ = gx s) (q : Int × gx_S) (h : gm_219_55 kg_6 x1 x2 x3 x5 s0 s1 s = some q) : fm_219_55 kf_6 yx1 yx2 yx3 yx5 ys0 ys1 σ = some (Int32.ofInt q.1, gx q.2) := by
  unfold gm_219_55 at h
  unfold fm_219_55
  obtain ⟨q2, w1, h⟩ := fx_bd h
  refine gb_bind (gf_131 es1 es w1) ?_
  exact hk_6 _ _ e1 _ _ e2 _ _ e3 _ _ (ga_add es0 (gr q2.1)) _ _ (ga_add e5 kg_1) _ _ (rfl : _ = gx q2.2) _ h
def gm_219_6 : Nat → Int → Int → Int → Int → Int → gx_S → Option (Int × gx_S)
  | 0, _, _, _, _, _, _ => none
  | n + 1, x1, x2, x3, x4, x5, s =>
    (gm_151 s).bind fun q2 =>
    if (-2147483648 ≤ x5 ∧ x5 ≤ 2147483647) then (
    if (-2147483648 ≤ q2.1 ∧ q2.1 ≤ 2147483647) then (
    if q2.1 ≤ x5 then (
      some (x4, q2.2)) else (
      (gm_152 0 x5 q2.2).bind fun q7 =>
      if (-2147483648 ≤ q7.1 ∧ q7.1 ≤ 2147483647) then (
      if (-2147483648 ≤ x1 ∧ x1 ≤ 2147483647) then (
      if ¬ q7.1 = x1 then (
        gm_219_55 (gm_219_6 n) x1 x2 x3 x5 x4 0 q7.2) else (
        (gm_152 1 x5 q7.2).bind fun q12 =>
        if (-2147483648 ≤ q12.1 ∧ q12.1 ≤ 2147483647) then (
        if (-2147483648 ≤ x2 ∧ x2 ≤ 2147483647) then (
        if ¬ q12.1 = x2 then (
          gm_219_55 (gm_219_6 n) x1 x2 x3 x5 x4 0 q12.2) else (
          (gm_152 2 x5 q12.2).bind fun q17 =>
          if (-2147483648 ≤ q17.1 ∧ q17.1 ≤ 2147483647) then (
          if (-2147483648 ≤ x3 ∧ x3 ≤ 2147483647) then (
          if ¬ q17.1 = x3 then (
            gm_219_55 (gm_219_6 n) x1 x2 x3 x5 x4 0 q17.2) else (
            gm_219_55 (gm_219_6 n) x1 x2 x3 x5 x4 1 q17.2)) else none) else none)) else none) else none)) else none) else none)) else none) else none
theorem gf_219_6 : ∀ (n : Nat) (x1 : Int) (yx1 : Int32) (e1 : yx1 = Int32.ofInt x1) (x2 : Int) (yx2 : Int32) (e2 : yx2 = Int32.ofInt x2) (x3 : Int) (yx3 : Int32) (e3 : yx3 = Int32.ofInt x3) (x4 : Int) (yx4 : Int32) (e4 : yx4 = Int32.ofInt x4) (x5 : Int) (yx5 : Int32) (e5 : yx5 = Int32.ofInt x5) (s : gx_S) (σ : fx_S) (es : σ = gx s) (q : Int × gx_S), gm_219_6 n x1 x2 x3 x4 x5 s = some q → fm_219_6 n yx1 yx2 yx3 yx4 yx5 σ = some (Int32.ofInt q.1, gx q.2) := by
  intro n
  induction n with
  | zero =>
    intro x1 yx1 e1 x2 yx2 e2 x3 yx3 e3 x4 yx4 e4 x5 yx5 e5 s σ es q  h
    rw [gm_219_6] at h
    exact fx_no h
  | succ n ih =>
    intro x1 yx1 e1 x2 yx2 e2 x3 yx3 e3 x4 yx4 e4 x5 yx5 e5 s σ es q  h
    rw [gm_219_6] at h
    rw [fm_219_6]
    obtain ⟨q2, w1, h⟩ := fx_bd h
    refine gb_bind (gf_151 es w1) ?_
    obtain ⟨z3, h⟩ := fx_gd h
    obtain ⟨z4, h⟩ := fx_gd h
    by_cases c5 : q2.1 ≤ x5
    · rw [if_pos c5] at h
      refine gb_t ((gc_le (gr q2.1) e5 z4 z3).mpr c5) ?_
      have h := Option.some.inj h
      subst h
      exact gret e4 (rfl : _ = gx q2.2)
    · rw [if_neg c5] at h
      refine gb_f (fun q => c5 ((gc_le (gr q2.1) e5 z4 z3).mp q)) ?_
      obtain ⟨q7, w6, h⟩ := fx_bd h
      refine gb_bind (gf_152 kg_0 e5 (rfl : _ = gx q2.2) w6) ?_
      obtain ⟨z8, h⟩ := fx_gd h
      obtain ⟨z9, h⟩ := fx_gd h
      by_cases c10 : ¬ q7.1 = x1
      · rw [if_pos c10] at h
        refine gb_t ((gc_ne (gr q7.1) e1 z8 z9).mpr c10) ?_
        exact gf_219_55 ih _ _ e1 _ _ e2 _ _ e3 _ _ e5 _ _ e4 _ _ kg_0 _ _ (rfl : _ = gx q7.2) _ h
      · rw [if_neg c10] at h
        refine gb_f (fun q => c10 ((gc_ne (gr q7.1) e1 z8 z9).mp q)) ?_
        obtain ⟨q12, w11, h⟩ := fx_bd h
        refine gb_bind (gf_152 kg_1 e5 (rfl : _ = gx q7.2) w11) ?_
        obtain ⟨z13, h⟩ := fx_gd h
        obtain ⟨z14, h⟩ := fx_gd h
        by_cases c15 : ¬ q12.1 = x2
        · rw [if_pos c15] at h
          refine gb_t ((gc_ne (gr q12.1) e2 z13 z14).mpr c15) ?_
          exact gf_219_55 ih _ _ e1 _ _ e2 _ _ e3 _ _ e5 _ _ e4 _ _ kg_0 _ _ (rfl : _ = gx q12.2) _ h
        · rw [if_neg c15] at h
          refine gb_f (fun q => c15 ((gc_ne (gr q12.1) e2 z13 z14).mp q)) ?_
          obtain ⟨q17, w16, h⟩ := fx_bd h
          refine gb_bind (gf_152 kg_2 e5 (rfl : _ = gx q12.2) w16) ?_
          obtain ⟨z18, h⟩ := fx_gd h
          obtain ⟨z19, h⟩ := fx_gd h
          by_cases c20 : ¬ q17.1 = x3
          · rw [if_pos c20] at h
            refine gb_t ((gc_ne (gr q17.1) e3 z18 z19).mpr c20) ?_
            exact gf_219_55 ih _ _ e1 _ _ e2 _ _ e3 _ _ e5 _ _ e4 _ _ kg_0 _ _ (rfl : _ = gx q17.2) _ h
          · rw [if_neg c20] at h
            refine gb_f (fun q => c20 ((gc_ne (gr q17.1) e3 z18 z19).mp q)) ?_
            exact gf_219_55 ih _ _ e1 _ _ e2 _ _ e3 _ _ e5 _ _ e4 _ _ kg_1 _ _ (rfl : _ = gx q17.2) _ h
def gm_219 (x1 : Int) (x2 : Int) (x3 : Int) (s : gx_S) : Option (Int × gx_S) :=
  gm_219_6 100000 x1 x2 x3 0 0 s
theorem gf_219 {x1 : Int} {yx1 : Int32} (e1 : yx1 = Int32.ofInt x1) {x2 : Int} {yx2 : Int32} (e2 : yx2 = Int32.ofInt x2) {x3 : Int} {yx3 : Int32} (e3 : yx3 = Int32.ofInt x3) {s : gx_S} {σ : fx_S} (es : σ = gx s) {q : Int × gx_S} (h : gm_219 x1 x2 x3 s = some q) : fm_219 yx1 yx2 yx3 σ = some (Int32.ofInt q.1, gx q.2) := by
  unfold gm_219 at h
  unfold fm_219
  exact gf_219_6 100000 _ _ e1 _ _ e2 _ _ e3 _ _ kg_0 _ _ kg_0 _ _ es _ h

/-! ZoneSharesModel.piece(II)I -/
def gm_220_124 (k_31 : Int → Int → Int → Int → gx_S → Option (Int × gx_S)) (x1 : Int) (x2 : Int) (x4 : Int) (s0 : Int) (s1 : Int) (s : gx_S) : Option (Int × gx_S) :=
  (gm_131 s1 s).bind fun q2 =>
  k_31 x1 x2 (s0 + q2.1) (x4 + 1) q2.2
theorem gf_220_124 {kf_31 : Int32 → Int32 → Int32 → Int32 → fx_S → Option (Int32 × fx_S)} {kg_31 : Int → Int → Int → Int → gx_S → Option (Int × gx_S)} (hk_31 : ∀ (x1 : Int) (yx1 : Int32) (e1 : yx1 = Int32.ofInt x1) (x2 : Int) (yx2 : Int32) (e2 : yx2 = Int32.ofInt x2) (x3 : Int) (yx3 : Int32) (e3 : yx3 = Int32.ofInt x3) (x4 : Int) (yx4 : Int32) (e4 : yx4 = Int32.ofInt x4) (s : gx_S) (σ : fx_S) (es : σ = gx s) (q : Int × gx_S), kg_31 x1 x2 x3 x4 s = some q → kf_31 yx1 yx2 yx3 yx4 σ = some (Int32.ofInt q.1, gx q.2)) (x1 : Int) (yx1 : Int32) (e1 : yx1 = Int32.ofInt x1) (x2 : Int) (yx2 : Int32) (e2 : yx2 = Int32.ofInt x2) (x4 : Int) (yx4 : Int32) (e4 : yx4 = Int32.ofInt x4) (s0 : Int) (ys0 : Int32) (es0 : ys0 = Int32.ofInt s0) (s1 : Int) (ys1 : Int32) (es1 : ys1 = Int32.ofInt s1) (s : gx_S) (σ : fx_S) (es : σ = gx s) (q : Int × gx_S) (h : gm_220_124 kg_31 x1 x2 x4 s0 s1 s = some q) : fm_220_124 kf_31 yx1 yx2 yx4 ys0 ys1 σ = some (Int32.ofInt q.1, gx q.2) := by
  unfold gm_220_124 at h
  unfold fm_220_124
  obtain ⟨q2, w1, h⟩ := fx_bd h
  refine gb_bind (gf_131 es1 es w1) ?_
  exact hk_31 _ _ e1 _ _ e2 _ _ (ga_add es0 (gr q2.1)) _ _ (ga_add e4 kg_1) _ _ (rfl : _ = gx q2.2) _ h
def gm_220_113 (k_31 : Int → Int → Int → Int → gx_S → Option (Int × gx_S)) (x1 : Int) (x2 : Int) (x3 : Int) (x4 : Int) (x7 : Int) (s : gx_S) : Option (Int × gx_S) :=
  if (-2147483648 ≤ x7 ∧ x7 ≤ 2147483647) then (
  if x7 ≤ 0 then (
    gm_220_124 k_31 x1 x2 x4 x3 0 s) else (
    gm_220_124 k_31 x1 x2 x4 x3 1 s)) else none
theorem gf_220_113 {kf_31 : Int32 → Int32 → Int32 → Int32 → fx_S → Option (Int32 × fx_S)} {kg_31 : Int → Int → Int → Int → gx_S → Option (Int × gx_S)} (hk_31 : ∀ (x1 : Int) (yx1 : Int32) (e1 : yx1 = Int32.ofInt x1) (x2 : Int) (yx2 : Int32) (e2 : yx2 = Int32.ofInt x2) (x3 : Int) (yx3 : Int32) (e3 : yx3 = Int32.ofInt x3) (x4 : Int) (yx4 : Int32) (e4 : yx4 = Int32.ofInt x4) (s : gx_S) (σ : fx_S) (es : σ = gx s) (q : Int × gx_S), kg_31 x1 x2 x3 x4 s = some q → kf_31 yx1 yx2 yx3 yx4 σ = some (Int32.ofInt q.1, gx q.2)) (x1 : Int) (yx1 : Int32) (e1 : yx1 = Int32.ofInt x1) (x2 : Int) (yx2 : Int32) (e2 : yx2 = Int32.ofInt x2) (x3 : Int) (yx3 : Int32) (e3 : yx3 = Int32.ofInt x3) (x4 : Int) (yx4 : Int32) (e4 : yx4 = Int32.ofInt x4) (x7 : Int) (yx7 : Int32) (e7 : yx7 = Int32.ofInt x7) (s : gx_S) (σ : fx_S) (es : σ = gx s) (q : Int × gx_S) (h : gm_220_113 kg_31 x1 x2 x3 x4 x7 s = some q) : fm_220_113 kf_31 yx1 yx2 yx3 yx4 yx7 σ = some (Int32.ofInt q.1, gx q.2) := by
  unfold gm_220_113 at h
  unfold fm_220_113
  obtain ⟨z1, h⟩ := fx_gd h
  by_cases c2 : x7 ≤ 0
  · rw [if_pos c2] at h
    refine gb_t ((gc_le e7 kg_0 z1 (by decide)).mpr c2) ?_
    exact gf_220_124 hk_31 _ _ e1 _ _ e2 _ _ e4 _ _ e3 _ _ kg_0 _ _ es _ h
  · rw [if_neg c2] at h
    refine gb_f (fun q => c2 ((gc_le e7 kg_0 z1 (by decide)).mp q)) ?_
    exact gf_220_124 hk_31 _ _ e1 _ _ e2 _ _ e4 _ _ e3 _ _ kg_1 _ _ es _ h
def gm_220_31 : Nat → Int → Int → Int → Int → gx_S → Option (Int × gx_S)
  | 0, _, _, _, _, _ => none
  | n + 1, x1, x2, x3, x4, s =>
    if (-2147483648 ≤ x4 ∧ x4 ≤ 2147483647) then (
    if 288 ≤ x4 then (
      if (-2147483648 ≤ x1 ∧ x1 ≤ 2147483647) then (
      if ¬ x1 = (-1) then (
        some ((-1), s)) else (
        some (x3, s))) else none) else (
      if 0 ≤ x4 ∧ x4 ≤ 2147483647 then (
      if 0 ≤ (x4 / 4) ∧ (x4 / 4) ≤ 2147483647 then (
      (gm_219 (x4 / 36) ((x4 / 4) % 9) (x4 % 4) s).bind fun q8 =>
      if (-2147483648 ≤ q8.1 ∧ q8.1 ≤ 2147483647) then (
      if q8.1 ≤ 0 then (
        gm_220_113 (gm_220_31 n) x1 x2 x3 x4 q8.1 q8.2) else (
        if (-2147483648 ≤ x3 ∧ x3 ≤ 2147483647) then (
        if (-2147483648 ≤ x1 ∧ x1 ≤ 2147483647) then (
        if ¬ x3 = x1 then (
          gm_220_113 (gm_220_31 n) x1 x2 x3 x4 q8.1 q8.2) else (
          if (-2147483648 ≤ x2 ∧ x2 ≤ 2147483647) then (
          if ¬ x2 = 0 then (
            if ¬ x2 = 1 then (
              if ¬ x2 = 2 then (
                some (q8.1, q8.2)) else (
                some ((x4 % 4), q8.2))) else (
              some (((x4 / 4) % 9), q8.2))) else (
            some ((x4 / 36), q8.2))) else none)) else none) else none)) else none) else none) else none)) else none
theorem gf_220_31 : ∀ (n : Nat) (x1 : Int) (yx1 : Int32) (e1 : yx1 = Int32.ofInt x1) (x2 : Int) (yx2 : Int32) (e2 : yx2 = Int32.ofInt x2) (x3 : Int) (yx3 : Int32) (e3 : yx3 = Int32.ofInt x3) (x4 : Int) (yx4 : Int32) (e4 : yx4 = Int32.ofInt x4) (s : gx_S) (σ : fx_S) (es : σ = gx s) (q : Int × gx_S), gm_220_31 n x1 x2 x3 x4 s = some q → fm_220_31 n yx1 yx2 yx3 yx4 σ = some (Int32.ofInt q.1, gx q.2) := by
  intro n
  induction n with
  | zero =>
    intro x1 yx1 e1 x2 yx2 e2 x3 yx3 e3 x4 yx4 e4 s σ es q  h
    rw [gm_220_31] at h
    exact fx_no h
  | succ n ih =>
    intro x1 yx1 e1 x2 yx2 e2 x3 yx3 e3 x4 yx4 e4 s σ es q  h
    rw [gm_220_31] at h
    rw [fm_220_31]
    obtain ⟨z1, h⟩ := fx_gd h
    by_cases c2 : 288 ≤ x4
    · rw [if_pos c2] at h
      refine gb_t ((gc_le kg_288 e4 (by decide) z1).mpr c2) ?_
      obtain ⟨z3, h⟩ := fx_gd h
      by_cases c4 : ¬ x1 = (-1)
      · rw [if_pos c4] at h
        refine gb_t ((gc_ne e1 kg_m1 z3 (by decide)).mpr c4) ?_
        have h := Option.some.inj h
        subst h
        exact gret kg_m1 es
      · rw [if_neg c4] at h
        refine gb_f (fun q => c4 ((gc_ne e1 kg_m1 z3 (by decide)).mp q)) ?_
        have h := Option.some.inj h
        subst h
        exact gret e3 es
    · rw [if_neg c2] at h
      refine gb_f (fun q => c2 ((gc_le kg_288 e4 (by decide) z1).mp q)) ?_
      obtain ⟨z5, h⟩ := fx_gd h
      obtain ⟨z6, h⟩ := fx_gd h
      obtain ⟨q8, w7, h⟩ := fx_bd h
      refine gb_bind (gf_219 (ga_div e4 kg_36 ⟨z5.1, z5.2, by decide, by decide⟩) (ga_rem (ga_div e4 kg_4 ⟨z5.1, z5.2, by decide, by decide⟩) kg_9 ⟨z6.1, z6.2, by decide, by decide⟩) (ga_rem e4 kg_4 ⟨z5.1, z5.2, by decide, by decide⟩) es w7) ?_
      obtain ⟨z9, h⟩ := fx_gd h
      by_cases c10 : q8.1 ≤ 0
      · rw [if_pos c10] at h
        refine gb_t ((gc_le (gr q8.1) kg_0 z9 (by decide)).mpr c10) ?_
        exact gf_220_113 ih _ _ e1 _ _ e2 _ _ e3 _ _ e4 _ _ (gr q8.1) _ _ (rfl : _ = gx q8.2) _ h
      · rw [if_neg c10] at h
        refine gb_f (fun q => c10 ((gc_le (gr q8.1) kg_0 z9 (by decide)).mp q)) ?_
        obtain ⟨z11, h⟩ := fx_gd h
        obtain ⟨z12, h⟩ := fx_gd h
        by_cases c13 : ¬ x3 = x1
        · rw [if_pos c13] at h
          refine gb_t ((gc_ne e3 e1 z11 z12).mpr c13) ?_
          exact gf_220_113 ih _ _ e1 _ _ e2 _ _ e3 _ _ e4 _ _ (gr q8.1) _ _ (rfl : _ = gx q8.2) _ h
        · rw [if_neg c13] at h
          refine gb_f (fun q => c13 ((gc_ne e3 e1 z11 z12).mp q)) ?_
          obtain ⟨z14, h⟩ := fx_gd h
          by_cases c15 : ¬ x2 = 0
          · rw [if_pos c15] at h
            refine gb_t ((gc_ne e2 kg_0 z14 (by decide)).mpr c15) ?_
            by_cases c16 : ¬ x2 = 1
            · rw [if_pos c16] at h
              refine gb_t ((gc_ne e2 kg_1 z14 (by decide)).mpr c16) ?_
              by_cases c17 : ¬ x2 = 2
              · rw [if_pos c17] at h
                refine gb_t ((gc_ne e2 kg_2 z14 (by decide)).mpr c17) ?_
                have h := Option.some.inj h
                subst h
                exact gret (gr q8.1) (rfl : _ = gx q8.2)
              · rw [if_neg c17] at h
                refine gb_f (fun q => c17 ((gc_ne e2 kg_2 z14 (by decide)).mp q)) ?_
                have h := Option.some.inj h
                subst h
                exact gret (ga_rem e4 kg_4 ⟨z5.1, z5.2, by decide, by decide⟩) (rfl : _ = gx q8.2)
            · rw [if_neg c16] at h
              refine gb_f (fun q => c16 ((gc_ne e2 kg_1 z14 (by decide)).mp q)) ?_
              have h := Option.some.inj h
              subst h
              exact gret (ga_rem (ga_div e4 kg_4 ⟨z5.1, z5.2, by decide, by decide⟩) kg_9 ⟨z6.1, z6.2, by decide, by decide⟩) (rfl : _ = gx q8.2)
          · rw [if_neg c15] at h
            refine gb_f (fun q => c15 ((gc_ne e2 kg_0 z14 (by decide)).mp q)) ?_
            have h := Option.some.inj h
            subst h
            exact gret (ga_div e4 kg_36 ⟨z5.1, z5.2, by decide, by decide⟩) (rfl : _ = gx q8.2)
def gm_220 (x1 : Int) (x2 : Int) (s : gx_S) : Option (Int × gx_S) :=
  (gm_150 s).bind fun q49 =>
  if (gb q49.1) = 0 then (
    some ((-1), q49.2)) else (
    if (-2147483648 ≤ x1 ∧ x1 ≤ 2147483647) then (
    if x1 < (-1) then (
      some ((-1), q49.2)) else (
      if (-2147483648 ≤ x2 ∧ x2 ≤ 2147483647) then (
      (gm_130 x2 0 3 q49.2).bind fun q55 =>
      if ¬ (gb q55.1) = 0 then (
        gm_220_31 100000 x1 x2 0 0 q55.2) else (
        some ((-1), q55.2))) else none)) else none)
theorem gf_220 {x1 : Int} {yx1 : Int32} (e1 : yx1 = Int32.ofInt x1) {x2 : Int} {yx2 : Int32} (e2 : yx2 = Int32.ofInt x2) {s : gx_S} {σ : fx_S} (es : σ = gx s) {q : Int × gx_S} (h : gm_220 x1 x2 s = some q) : fm_220 yx1 yx2 σ = some (Int32.ofInt q.1, gx q.2) := by
  unfold gm_220 at h
  unfold fm_220
  obtain ⟨q49, w48, h⟩ := fx_bd h
  refine gb_bind (gf_150 es w48) ?_
  by_cases c50 : (gb q49.1) = 0
  · rw [if_pos c50] at h
    refine gb_t ((gc_eq (gb_b q49.1) kg_0 (gb_r _) (by decide)).mpr c50) ?_
    have h := Option.some.inj h
    subst h
    exact gret kg_m1 (rfl : _ = gx q49.2)
  · rw [if_neg c50] at h
    refine gb_f (fun q => c50 ((gc_eq (gb_b q49.1) kg_0 (gb_r _) (by decide)).mp q)) ?_
    obtain ⟨z51, h⟩ := fx_gd h
    by_cases c52 : x1 < (-1)
    · rw [if_pos c52] at h
      refine gb_t ((gc_lt e1 kg_m1 z51 (by decide)).mpr c52) ?_
      have h := Option.some.inj h
      subst h
      exact gret kg_m1 (rfl : _ = gx q49.2)
    · rw [if_neg c52] at h
      refine gb_f (fun q => c52 ((gc_lt e1 kg_m1 z51 (by decide)).mp q)) ?_
      obtain ⟨z53, h⟩ := fx_gd h
      obtain ⟨q55, w54, h⟩ := fx_bd h
      refine gb_bind (gf_130 (ga_i2l e2 z53) kgl_0 kgl_3 (rfl : _ = gx q49.2) w54) ?_
      by_cases c56 : ¬ (gb q55.1) = 0
      · rw [if_pos c56] at h
        refine gb_t ((gc_ne (gb_b q55.1) kg_0 (gb_r _) (by decide)).mpr c56) ?_
        exact gf_220_31 100000 _ _ e1 _ _ e2 _ _ kg_0 _ _ kg_0 _ _ (rfl : _ = gx q55.2) _ h
      · rw [if_neg c56] at h
        refine gb_f (fun q => c56 ((gc_ne (gb_b q55.1) kg_0 (gb_r _) (by decide)).mp q)) ?_
        have h := Option.some.inj h
        subst h
        exact gret kg_m1 (rfl : _ = gx q55.2)

/-! ZoneSharesModel.newSet(I)I -/
def gm_221_35 (k_4 : Int → Int → Int → gx_S → Option (Int × gx_S)) (x1 : Int) (x3 : Int) (s0 : Int) (s1 : Int) (s : gx_S) : Option (Int × gx_S) :=
  k_4 x1 (((Int32.ofInt s0 ||| Int32.ofInt s1)).toInt) (x3 + 1) s
theorem gf_221_35 {kf_4 : Int32 → Int32 → Int32 → fx_S → Option (Int32 × fx_S)} {kg_4 : Int → Int → Int → gx_S → Option (Int × gx_S)} (hk_4 : ∀ (x1 : Int) (yx1 : Int32) (e1 : yx1 = Int32.ofInt x1) (x2 : Int) (yx2 : Int32) (e2 : yx2 = Int32.ofInt x2) (x3 : Int) (yx3 : Int32) (e3 : yx3 = Int32.ofInt x3) (s : gx_S) (σ : fx_S) (es : σ = gx s) (q : Int × gx_S), kg_4 x1 x2 x3 s = some q → kf_4 yx1 yx2 yx3 σ = some (Int32.ofInt q.1, gx q.2)) (x1 : Int) (yx1 : Int32) (e1 : yx1 = Int32.ofInt x1) (x3 : Int) (yx3 : Int32) (e3 : yx3 = Int32.ofInt x3) (s0 : Int) (ys0 : Int32) (es0 : ys0 = Int32.ofInt s0) (s1 : Int) (ys1 : Int32) (es1 : ys1 = Int32.ofInt s1) (s : gx_S) (σ : fx_S) (es : σ = gx s) (q : Int × gx_S) (h : gm_221_35 kg_4 x1 x3 s0 s1 s = some q) : fm_221_35 kf_4 yx1 yx3 ys0 ys1 σ = some (Int32.ofInt q.1, gx q.2) := by
  unfold gm_221_35 at h
  unfold fm_221_35
  exact hk_4 _ _ e1 _ _ (ga_o2 (f := (fun a b => (a ||| b))) es0 es1) _ _ (ga_add e3 kg_1) _ _ es _ h
def gm_221_4 : Nat → Int → Int → Int → gx_S → Option (Int × gx_S)
  | 0, _, _, _, _ => none
  | n + 1, x1, x2, x3, s =>
    (gm_151 s).bind fun q2 =>
    if (-2147483648 ≤ x3 ∧ x3 ≤ 2147483647) then (
    if (-2147483648 ≤ q2.1 ∧ q2.1 ≤ 2147483647) then (
    if q2.1 ≤ x3 then (
      some (x2, q2.2)) else (
      (gm_152 0 x3 q2.2).bind fun q7 =>
      if (-2147483648 ≤ q7.1 ∧ q7.1 ≤ 2147483647) then (
      if (-2147483648 ≤ x1 ∧ x1 ≤ 2147483647) then (
      if ¬ q7.1 = x1 then (
        gm_221_35 (gm_221_4 n) x1 x3 x2 0 q7.2) else (
        (gm_152 1 x3 q7.2).bind fun q12 =>
        gm_221_35 (gm_221_4 n) x1 x3 x2 (((Int32.ofInt 1 <<< (Int32.ofInt q12.1 &&& 31))).toInt) q12.2)) else none) else none)) else none) else none
theorem gf_221_4 : ∀ (n : Nat) (x1 : Int) (yx1 : Int32) (e1 : yx1 = Int32.ofInt x1) (x2 : Int) (yx2 : Int32) (e2 : yx2 = Int32.ofInt x2) (x3 : Int) (yx3 : Int32) (e3 : yx3 = Int32.ofInt x3) (s : gx_S) (σ : fx_S) (es : σ = gx s) (q : Int × gx_S), gm_221_4 n x1 x2 x3 s = some q → fm_221_4 n yx1 yx2 yx3 σ = some (Int32.ofInt q.1, gx q.2) := by
  intro n
  induction n with
  | zero =>
    intro x1 yx1 e1 x2 yx2 e2 x3 yx3 e3 s σ es q  h
    rw [gm_221_4] at h
    exact fx_no h
  | succ n ih =>
    intro x1 yx1 e1 x2 yx2 e2 x3 yx3 e3 s σ es q  h
    rw [gm_221_4] at h
    rw [fm_221_4]
    obtain ⟨q2, w1, h⟩ := fx_bd h
    refine gb_bind (gf_151 es w1) ?_
    obtain ⟨z3, h⟩ := fx_gd h
    obtain ⟨z4, h⟩ := fx_gd h
    by_cases c5 : q2.1 ≤ x3
    · rw [if_pos c5] at h
      refine gb_t ((gc_le (gr q2.1) e3 z4 z3).mpr c5) ?_
      have h := Option.some.inj h
      subst h
      exact gret e2 (rfl : _ = gx q2.2)
    · rw [if_neg c5] at h
      refine gb_f (fun q => c5 ((gc_le (gr q2.1) e3 z4 z3).mp q)) ?_
      obtain ⟨q7, w6, h⟩ := fx_bd h
      refine gb_bind (gf_152 kg_0 e3 (rfl : _ = gx q2.2) w6) ?_
      obtain ⟨z8, h⟩ := fx_gd h
      obtain ⟨z9, h⟩ := fx_gd h
      by_cases c10 : ¬ q7.1 = x1
      · rw [if_pos c10] at h
        refine gb_t ((gc_ne (gr q7.1) e1 z8 z9).mpr c10) ?_
        exact gf_221_35 ih _ _ e1 _ _ e3 _ _ e2 _ _ kg_0 _ _ (rfl : _ = gx q7.2) _ h
      · rw [if_neg c10] at h
        refine gb_f (fun q => c10 ((gc_ne (gr q7.1) e1 z8 z9).mp q)) ?_
        obtain ⟨q12, w11, h⟩ := fx_bd h
        refine gb_bind (gf_152 kg_1 e3 (rfl : _ = gx q7.2) w11) ?_
        exact gf_221_35 ih _ _ e1 _ _ e3 _ _ e2 _ _ (ga_o2 (f := (fun a b => (a <<< (b &&& 31)))) kg_1 (gr q12.1)) _ _ (rfl : _ = gx q12.2) _ h
def gm_221 (x1 : Int) (s : gx_S) : Option (Int × gx_S) :=
  gm_221_4 100000 x1 0 0 s
theorem gf_221 {x1 : Int} {yx1 : Int32} (e1 : yx1 = Int32.ofInt x1) {s : gx_S} {σ : fx_S} (es : σ = gx s) {q : Int × gx_S} (h : gm_221 x1 s = some q) : fm_221 yx1 σ = some (Int32.ofInt q.1, gx q.2) := by
  unfold gm_221 at h
  unfold fm_221
  exact gf_221_4 100000 _ _ e1 _ _ kg_0 _ _ kg_0 _ _ es _ h

/-! ZoneSharesModel.asideAll()I -/
def gm_225_30 (x1 : Int) (s : gx_S) : Option (Int × gx_S) :=
  some (x1, s)
theorem gf_225_30 (x1 : Int) (yx1 : Int32) (e1 : yx1 = Int32.ofInt x1) (s : gx_S) (σ : fx_S) (es : σ = gx s) (q : Int × gx_S) (h : gm_225_30 x1 s = some q) : fm_225_30 yx1 σ = some (Int32.ofInt q.1, gx q.2) := by
  unfold gm_225_30 at h
  unfold fm_225_30
  have h := Option.some.inj h
  subst h
  exact gret e1 es
def gm_225_4 : Nat → Int → Int → gx_S → Option (Int × gx_S)
  | 0, _, _, _ => none
  | n + 1, x1, x2, s =>
    if (-2147483648 ≤ x2 ∧ x2 ≤ 2147483647) then (
    if 3 ≤ x2 then (
      gm_225_30 x1 s) else (
      (gm_150 s).bind fun q4 =>
      if (gb q4.1) = 0 then (
        gm_225_30 x1 q4.2) else (
        (gm_176 x2 q4.2).bind fun q7 =>
        gm_225_4 n (x1 + q7.1) (x2 + 1) q7.2))) else none
theorem gf_225_4 : ∀ (n : Nat) (x1 : Int) (yx1 : Int32) (e1 : yx1 = Int32.ofInt x1) (x2 : Int) (yx2 : Int32) (e2 : yx2 = Int32.ofInt x2) (s : gx_S) (σ : fx_S) (es : σ = gx s) (q : Int × gx_S), gm_225_4 n x1 x2 s = some q → fm_225_4 n yx1 yx2 σ = some (Int32.ofInt q.1, gx q.2) := by
  intro n
  induction n with
  | zero =>
    intro x1 yx1 e1 x2 yx2 e2 s σ es q  h
    rw [gm_225_4] at h
    exact fx_no h
  | succ n ih =>
    intro x1 yx1 e1 x2 yx2 e2 s σ es q  h
    rw [gm_225_4] at h
    rw [fm_225_4]
    obtain ⟨z1, h⟩ := fx_gd h
    by_cases c2 : 3 ≤ x2
    · rw [if_pos c2] at h
      refine gb_t ((gc_le kg_3 e2 (by decide) z1).mpr c2) ?_
      exact gf_225_30 _ _ e1 _ _ es _ h
    · rw [if_neg c2] at h
      refine gb_f (fun q => c2 ((gc_le kg_3 e2 (by decide) z1).mp q)) ?_
      obtain ⟨q4, w3, h⟩ := fx_bd h
      refine gb_bind (gf_150 es w3) ?_
      by_cases c5 : (gb q4.1) = 0
      · rw [if_pos c5] at h
        refine gb_t ((gc_eq (gb_b q4.1) kg_0 (gb_r _) (by decide)).mpr c5) ?_
        exact gf_225_30 _ _ e1 _ _ (rfl : _ = gx q4.2) _ h
      · rw [if_neg c5] at h
        refine gb_f (fun q => c5 ((gc_eq (gb_b q4.1) kg_0 (gb_r _) (by decide)).mp q)) ?_
        obtain ⟨q7, w6, h⟩ := fx_bd h
        refine gb_bind (gf_176 e2 (rfl : _ = gx q4.2) w6) ?_
        exact ih _ _ (ga_add e1 (gr q7.1)) _ _ (ga_add e2 kg_1) _ _ (rfl : _ = gx q7.2) _ h
def gm_225 (s : gx_S) : Option (Int × gx_S) :=
  gm_225_4 100000 0 0 s
theorem gf_225 {s : gx_S} {σ : fx_S} (es : σ = gx s) {q : Int × gx_S} (h : gm_225 s = some q) : fm_225 σ = some (Int32.ofInt q.1, gx q.2) := by
  unfold gm_225 at h
  unfold fm_225
  exact gf_225_4 100000 _ _ kg_0 _ _ kg_0 _ _ es _ h

/-! ZoneSharesModel.weight(II)I -/
def gm_227 (x1 : Int) (x2 : Int) (s : gx_S) : Option (Int × gx_S) :=
  (gm_148 x1 s).bind fun q12 =>
  if (gb q12.1) = 0 then (
    some ((-1), q12.2)) else (
    if (-2147483648 ≤ x2 ∧ x2 ≤ 2147483647) then (
    (gm_130 x2 0 3 q12.2).bind fun q16 =>
    if (gb q16.1) = 0 then (
      some ((-1), q16.2)) else (
      if 0 ≤ ((32 + (4 * x1)) + x2) ∧ ((32 + (4 * x1)) + x2) < 340 then (
      some ((q16.2.1 216 (((32 + (4 * x1)) + x2)).toNat), q16.2)) else none)) else none)
theorem gf_227 {x1 : Int} {yx1 : Int32} (e1 : yx1 = Int32.ofInt x1) {x2 : Int} {yx2 : Int32} (e2 : yx2 = Int32.ofInt x2) {s : gx_S} {σ : fx_S} (es : σ = gx s) {q : Int × gx_S} (h : gm_227 x1 x2 s = some q) : fm_227 yx1 yx2 σ = some (Int32.ofInt q.1, gx q.2) := by
  unfold gm_227 at h
  unfold fm_227
  obtain ⟨q12, w11, h⟩ := fx_bd h
  refine gb_bind (gf_148 e1 es w11) ?_
  by_cases c13 : (gb q12.1) = 0
  · rw [if_pos c13] at h
    refine gb_t ((gc_eq (gb_b q12.1) kg_0 (gb_r _) (by decide)).mpr c13) ?_
    have h := Option.some.inj h
    subst h
    exact gret kg_m1 (rfl : _ = gx q12.2)
  · rw [if_neg c13] at h
    refine gb_f (fun q => c13 ((gc_eq (gb_b q12.1) kg_0 (gb_r _) (by decide)).mp q)) ?_
    obtain ⟨z14, h⟩ := fx_gd h
    obtain ⟨q16, w15, h⟩ := fx_bd h
    refine gb_bind (gf_130 (ga_i2l e2 z14) kgl_0 kgl_3 (rfl : _ = gx q12.2) w15) ?_
    by_cases c17 : (gb q16.1) = 0
    · rw [if_pos c17] at h
      refine gb_t ((gc_eq (gb_b q16.1) kg_0 (gb_r _) (by decide)).mpr c17) ?_
      have h := Option.some.inj h
      subst h
      exact gret kg_m1 (rfl : _ = gx q16.2)
    · rw [if_neg c17] at h
      refine gb_f (fun q => c17 ((gc_eq (gb_b q16.1) kg_0 (gb_r _) (by decide)).mp q)) ?_
      obtain ⟨z20, h⟩ := fx_gd h
      refine gb_bind (gl_ld (rfl : _ = gx q16.2) (ga_add (ga_add kg_32 (ga_mul kg_4 e1)) e2) ga_216 z20) ?_
      have h := Option.some.inj h
      subst h
      exact gret (gr (q16.2.1 216 (((32 + (4 * x1)) + x2)).toNat)) (rfl : _ = gx q16.2)
end
