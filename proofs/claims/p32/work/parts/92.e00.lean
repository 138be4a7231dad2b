/-! DYNAMIC CELLS: what a step leaves; frames -/
theorem dw_I (δ : dS) (k j : Nat) (x : Int) (a b : Nat) : (δ.w k j x).I a b = if a = k ∧ b = j then x else δ.I a b := rfl
theorem dw_P (δ : dS) (k j : Nat) (x : Int) : (δ.w k j x).P = δ.P := rfl
theorem dw_sh (δ : dS) (k j : Nat) (x : Int) : (δ.w k j x).sh = δ.sh := rfl
theorem dw_n (δ : dS) (k j : Nat) (x : Int) : (δ.w k j x).n = δ.n := rfl
theorem dr_P (δ : dS) (k j : Nat) (o : Option Nat) (a b : Nat) : (δ.r k j o).P a b = if a = k ∧ b = j then o else δ.P a b := rfl
theorem dr_I (δ : dS) (k j : Nat) (o : Option Nat) : (δ.r k j o).I = δ.I := rfl
theorem dr_sh (δ : dS) (k j : Nat) (o : Option Nat) : (δ.r k j o).sh = δ.sh := rfl
theorem dr_n (δ : dS) (k j : Nat) (o : Option Nat) : (δ.r k j o).n = δ.n := rfl
theorem da_I (δ : dS) (t m : Nat) (a b : Nat) : (δ.al t m).I a b = if a = δ.n then 0 else δ.I a b := rfl
theorem da_P (δ : dS) (t m : Nat) (a b : Nat) : (δ.al t m).P a b = if a = δ.n then none else δ.P a b := rfl
theorem da_sh (δ : dS) (t m : Nat) (a : Nat) : (δ.al t m).sh a = if a = δ.n then (t, m) else δ.sh a := rfl
theorem da_n (δ : dS) (t m : Nat) : (δ.al t m).n = δ.n + 1 := rfl
theorem dc_I (δ : dS) (k : Nat) (a b : Nat) : (δ.cl k).I a b = if a = δ.n then δ.I k b else δ.I a b := rfl
theorem dc_P (δ : dS) (k : Nat) (a b : Nat) : (δ.cl k).P a b = if a = δ.n then none else δ.P a b := rfl
theorem dc_sh (δ : dS) (k : Nat) (a : Nat) : (δ.cl k).sh a = if a = δ.n then δ.sh k else δ.sh a := rfl
theorem dc_n (δ : dS) (k : Nat) : (δ.cl k).n = δ.n + 1 := rfl
theorem du_I (δ : dS) (m k : Nat) (a b : Nat) : (δ.mu m k).I a b = if δ.n ≤ a then 0 else δ.I a b := rfl
theorem du_P (δ : dS) (m k : Nat) (a b : Nat) : (δ.mu m k).P a b = if a = δ.n then (if b < m then some (δ.n + 1 + b) else none) else if δ.n < a then none else δ.P a b := rfl
theorem du_sh (δ : dS) (m k : Nat) (a : Nat) : (δ.mu m k).sh a = if a = δ.n then (6, m) else if δ.n < a then (0, k) else δ.sh a := rfl
theorem du_n (δ : dS) (m k : Nat) : (δ.mu m k).n = δ.n + 1 + m := rfl
theorem dp_I (δ : dS) (a sp b dp m k j : Nat) : (δ.cp a sp b dp m).I k j = if k = b ∧ dp ≤ j ∧ j < dp + m then δ.I a (sp + (j - dp)) else δ.I k j := rfl
theorem dp_P (δ : dS) (a sp b dp m : Nat) : (δ.cp a sp b dp m).P = δ.P := rfl
theorem dp_sh (δ : dS) (a sp b dp m : Nat) : (δ.cp a sp b dp m).sh = δ.sh := rfl
theorem dp_n (δ : dS) (a sp b dp m : Nat) : (δ.cp a sp b dp m).n = δ.n := rfl
theorem dz_I (δ : dS) (f : Nat → Int32) (sp b dp m k j : Nat) : (δ.cz f sp b dp m).I k j = if k = b ∧ dp ≤ j ∧ j < dp + m then (f (sp + (j - dp))).toInt else δ.I k j := rfl
theorem dz_P (δ : dS) (f : Nat → Int32) (sp b dp m : Nat) : (δ.cz f sp b dp m).P = δ.P := rfl
theorem dz_sh (δ : dS) (f : Nat → Int32) (sp b dp m : Nat) : (δ.cz f sp b dp m).sh = δ.sh := rfl
theorem dz_n (δ : dS) (f : Nat → Int32) (sp b dp m : Nat) : (δ.cz f sp b dp m).n = δ.n := rfl
/-- from δ to ε: no cell below m is another, at most c cells come, none of more than 3100 places -/
def DF (m c : Nat) (δ ε : dS) : Prop := (δ.n ≤ ε.n ∧ ε.n ≤ δ.n + c) ∧ (∀ a, a < m → (∀ b, ε.I a b = δ.I a b) ∧ ∀ b, ε.P a b = δ.P a b) ∧ (∀ a, a < δ.n → ε.sh a = δ.sh a) ∧ ∀ a, δ.n ≤ a → a < ε.n → (ε.sh a).2 ≤ 3100
theorem DF_rf (m : Nat) (δ : dS) : DF m 0 δ δ := ⟨by omega, fun a _ => ⟨fun _ => rfl, fun _ => rfl⟩, fun a _ => rfl, fun a h1 h2 => by omega⟩
theorem DF_tr {m c d : Nat} {δ ε ζ : dS} (x : DF m c δ ε) (y : DF m d ε ζ) : DF m (c + d) δ ζ := by
  obtain ⟨x1, x2, x3, x4⟩ := x
  obtain ⟨y1, y2, y3, y4⟩ := y
  refine ⟨by omega, fun a h => ⟨fun b => ((y2 a h).1 b).trans ((x2 a h).1 b), fun b => ((y2 a h).2 b).trans ((x2 a h).2 b)⟩, fun a h => (y3 a (by omega)).trans (x3 a h), fun a h1 h2 => ?_⟩
  by_cases q : a < ε.n
  · rw [y3 a q]
    exact x4 a h1 q
  · exact y4 a (by omega) h2
theorem DF_mono {m m' c c' : Nat} {δ ε : dS} (hm : m' ≤ m) (hc : c ≤ c') (x : DF m c δ ε) : DF m' c' δ ε := by
  obtain ⟨x1, x2, x3, x4⟩ := x
  exact ⟨by omega, fun a h => x2 a (by omega), x3, x4⟩
theorem DF_c {m c c' : Nat} {δ ε : dS} (x : DF m c δ ε) (hc : c ≤ c') : DF m c' δ ε := DF_mono (Nat.le_refl m) hc x
theorem DF_w {m k : Nat} (δ : dS) (j : Nat) (x : Int) (h : m ≤ k) : DF m 0 δ (δ.w k j x) := ⟨by rw [dw_n]; omega, fun a ha => ⟨fun b => by rw [dw_I, if_neg (by omega)], fun b => by rw [dw_P]⟩, fun a _ => by rw [dw_sh], fun a h1 h2 => by rw [dw_n] at h2; omega⟩
theorem DF_r {m k : Nat} (δ : dS) (j : Nat) (o : Option Nat) (h : m ≤ k) : DF m 0 δ (δ.r k j o) := ⟨by rw [dr_n]; omega, fun a ha => ⟨fun b => by rw [dr_I], fun b => by rw [dr_P, if_neg (by omega)]⟩, fun a _ => by rw [dr_sh], fun a h1 h2 => by rw [dr_n] at h2; omega⟩
theorem DF_al {m : Nat} (δ : dS) (t k : Nat) (h : m ≤ δ.n) (hk : k ≤ 3100) : DF m 1 δ (δ.al t k) := ⟨by rw [da_n]; omega, fun a ha => ⟨fun b => by rw [da_I, if_neg (by omega)], fun b => by rw [da_P, if_neg (by omega)]⟩, fun a ha => by rw [da_sh, if_neg (by omega)], fun a h1 h2 => by rw [da_n] at h2; rw [da_sh, if_pos (by omega)]; exact hk⟩
theorem DF_cl {m : Nat} (δ : dS) (k : Nat) (h : m ≤ δ.n) (hk : (δ.sh k).2 ≤ 3100) : DF m 1 δ (δ.cl k) := ⟨by rw [dc_n]; omega, fun a ha => ⟨fun b => by rw [dc_I, if_neg (by omega)], fun b => by rw [dc_P, if_neg (by omega)]⟩, fun a ha => by rw [dc_sh, if_neg (by omega)], fun a h1 h2 => by rw [dc_n] at h2; rw [dc_sh, if_pos (by omega)]; exact hk⟩
theorem DF_mu {m : Nat} (δ : dS) (r k : Nat) (h : m ≤ δ.n) (hr : r ≤ 3100) (hk : k ≤ 3100) : DF m (1 + r) δ (δ.mu r k) := ⟨by rw [du_n]; omega, fun a ha => ⟨fun b => by rw [du_I, if_neg (by omega)], fun b => by rw [du_P, if_neg (by omega), if_neg (by omega)]⟩, fun a ha => by rw [du_sh, if_neg (by omega), if_neg (by omega)], fun a h1 h2 => by
  rw [du_n] at h2
  rw [du_sh]
  by_cases q : a = δ.n
  · rw [if_pos q]; exact hr
  · rw [if_neg q, if_pos (by omega)]; exact hk⟩
theorem DF_cp {m b : Nat} (δ : dS) (a sp dp k : Nat) (h : m ≤ b) : DF m 0 δ (δ.cp a sp b dp k) := ⟨by rw [dp_n]; omega, fun x hx => ⟨fun j => by rw [dp_I, if_neg (by omega)], fun j => by rw [dp_P]⟩, fun x _ => by rw [dp_sh], fun x h1 h2 => by rw [dp_n] at h2; omega⟩
theorem DF_cz {m b : Nat} (δ : dS) (f : Nat → Int32) (sp dp k : Nat) (h : m ≤ b) : DF m 0 δ (δ.cz f sp b dp k) := ⟨by rw [dz_n]; omega, fun x hx => ⟨fun j => by rw [dz_I, if_neg (by omega)], fun j => by rw [dz_P]⟩, fun x _ => by rw [dz_sh], fun x h1 h2 => by rw [dz_n] at h2; omega⟩
theorem dO_DF {m c k ci : Nat} {δ ε : dS} (x : DF m c δ ε) (h : dO δ k ci) : dO ε k ci := ⟨h.1, by have := x.1; have := h.2.1; omega, by rw [x.2.2.1 k h.2.1]; exact h.2.2⟩
theorem dA_DF {m c t k : Nat} {δ ε : dS} (x : DF m c δ ε) (h : dA δ t k) : dA ε t k := ⟨h.1, by have := x.1; have := h.2.1; omega, by rw [x.2.2.1 k h.2.1]; exact h.2.2⟩
theorem dI_DF {m c t k : Nat} {i : Int} {δ ε : dS} (x : DF m c δ ε) (h : dA δ t k) (q : dI δ k i) : dI ε k i := ⟨q.1, by rw [x.2.2.1 k h.2.1]; exact q.2⟩
theorem dI_n {δ : dS} {k t n : Nat} (h : δ.sh k = (t, n)) (i : Nat) (hi : i < n) : dI δ k (i : Int) := ⟨by omega, by rw [h]; show (i : Int) < (n : Int); omega⟩
/-- an array of t with n places -/
def AR (δ : dS) (t k n : Nat) : Prop := 215 ≤ k ∧ k < δ.n ∧ δ.sh k = (t, n)
theorem AR_A {δ : dS} {t k n : Nat} (h : AR δ t k n) : dA δ t k := ⟨h.1, h.2.1, by rw [h.2.2]⟩
theorem AR_2 {δ : dS} {t k n : Nat} (h : AR δ t k n) : (δ.sh k).2 = n := by rw [h.2.2]
theorem AR_I {δ : dS} {t k n i : Nat} (h : AR δ t k n) (hi : i < n) : dI δ k (i : Int) := dI_n h.2.2 i hi
theorem AR_DF {m c t k n : Nat} {δ ε : dS} (x : DF m c δ ε) (h : AR δ t k n) : AR ε t k n := ⟨h.1, by have := x.1; have := h.2.1; omega, by rw [x.2.2.1 k h.2.1]; exact h.2.2⟩
/-! BYTES AND SMALL NUMBERS -/
theorem gn3_n : ∀ x : Nat, x < 128 → gn3 (x : Int) = x := by decide +kernel
theorem b8_n : ∀ x : Nat, x < 128 → (((Int32.ofInt (x : Int)).toInt8.toInt32).toInt) = x := by decide +kernel
theorem c16_n : ∀ x : Nat, x < 128 → (((Int32.ofInt (x : Int)).toUInt32 % 65536).toInt32).toInt = x := by decide +kernel
theorem a255_n : ∀ x : Nat, x < 128 → (Int32.ofInt (x : Int) &&& Int32.ofInt 255).toInt = x := by decide +kernel
theorem gn2_1 : gn2 1 = 1 := by decide +kernel
theorem sh0_ : (Int32.ofInt 0 &&& 31) = 0 := by decide +kernel
theorem shr0 {x : Int} (h : i32 x) : (Int32.ofInt x >>> (Int32.ofInt 0 &&& 31)).toInt = x := by
  unfold i32 at h
  rw [sh0_, Int32.shiftRight_zero, ga_ti h]
theorem shl0 {x : Int} (h : i32 x) : (Int32.ofInt x <<< (Int32.ofInt 0 &&& 31)).toInt = x := by
  unfold i32 at h
  rw [sh0_, Int32.shiftLeft_zero, ga_ti h]
theorem gn3_i {x : Int} (h : 0 ≤ x ∧ x < 128) : gn3 x = x := by
  have := gn3_n x.toNat (by omega)
  rw [show ((x.toNat : Nat) : Int) = x by omega] at this
  exact this
theorem b8_i {x : Int} (h : 0 ≤ x ∧ x < 128) : (((Int32.ofInt x).toInt8.toInt32).toInt) = x := by
  have := b8_n x.toNat (by omega)
  rw [show ((x.toNat : Nat) : Int) = x by omega] at this
  exact this
theorem c16_i {x : Int} (h : 0 ≤ x ∧ x < 128) : (((Int32.ofInt x).toUInt32 % 65536).toInt32).toInt = x := by
  have := c16_n x.toNat (by omega)
  rw [show ((x.toNat : Nat) : Int) = x by omega] at this
  exact this
theorem a255_i {x : Int} (h : 0 ≤ x ∧ x < 128) : (Int32.ofInt x &&& Int32.ofInt 255).toInt = x := by
  have := a255_n x.toNat (by omega)
  rw [show ((x.toNat : Nat) : Int) = x by omega] at this
  exact this
