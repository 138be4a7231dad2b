/-! NUMBERS AS DRAWN; the LAW'S MAP: its cells, what they hold -/
theorem nb_i {x : Int} (h : 0 ≤ x ∧ x ≤ 2147483647) : (Int32.ofInt x).toBitVec.toNat = x.toNat := by
  show (BitVec.ofInt 32 x).toNat = x.toNat
  rw [BitVec.toNat_ofInt, show ((2 ^ 32 : Nat) : Int) = 4294967296 from rfl, Int.emod_eq_of_lt (by omega) (by omega)]
theorem nb_t {X : Int32} (h : X.toBitVec.toNat < 2147483648) : X.toInt = ((X.toBitVec.toNat : Nat) : Int) := BitVec.toInt_eq_toNat_of_lt (by omega)
theorem nb_e : ∀ n : Nat, n < 32 → ((Int32.ofInt (n : Int) &&& 31).toBitVec.smod 32).toNat = n := by decide +kernel
theorem nb_s {x k : Int} {n : Nat} (h : 0 ≤ x ∧ x ≤ 2147483647) (hk : k = n) (hn : n < 32) : 0 ≤ (Int32.ofInt x >>> (Int32.ofInt k &&& 31)).toInt ∧ (Int32.ofInt x >>> (Int32.ofInt k &&& 31)).toInt ≤ x := by
  have b : (Int32.ofInt x >>> (Int32.ofInt k &&& 31)).toBitVec = (Int32.ofInt x).toBitVec.sshiftRight n := by
    rw [Int32.toBitVec_shiftRight, BitVec.sshiftRight', hk, nb_e n hn]
  have m : (Int32.ofInt x).toBitVec.msb = false := BitVec.msb_eq_false_iff_two_mul_lt.mpr (by rw [nb_i h]; omega)
  have t : (Int32.ofInt x >>> (Int32.ofInt k &&& 31)).toBitVec.toNat = x.toNat / 2 ^ n := by
    rw [b, BitVec.sshiftRight_eq_of_msb_false m, BitVec.toNat_ushiftRight, nb_i h, Nat.shiftRight_eq_div_pow]
  have d := Nat.div_le_self x.toNat (2 ^ n)
  rw [nb_t (by rw [t]; omega), t]
  omega
theorem nb_a (X : Int32) {y : Int} (h : 0 ≤ y ∧ y ≤ 2147483647) : 0 ≤ (X &&& Int32.ofInt y).toInt ∧ (X &&& Int32.ofInt y).toInt ≤ y := by
  have t : (X &&& Int32.ofInt y).toBitVec.toNat = X.toBitVec.toNat &&& y.toNat := by
    rw [Int32.toBitVec_and, BitVec.toNat_and, nb_i h]
  have d : X.toBitVec.toNat &&& y.toNat ≤ y.toNat := Nat.and_le_right
  rw [nb_t (by rw [t]; omega), t]
  omega
theorem nb_x {x y : Int} (h : 0 ≤ x ∧ x ≤ 2147483647) (g : 0 ≤ y ∧ y ≤ 2147483647) : 0 ≤ (Int32.ofInt x ^^^ Int32.ofInt y).toInt ∧ (Int32.ofInt x ^^^ Int32.ofInt y).toInt ≤ 2147483647 := by
  have t : (Int32.ofInt x ^^^ Int32.ofInt y).toBitVec.toNat = x.toNat ^^^ y.toNat := by
    rw [Int32.toBitVec_xor, BitVec.toNat_xor, nb_i h, nb_i g]
  have d : x.toNat ^^^ y.toNat < 2 ^ 31 := Nat.xor_lt_two_pow (by show x.toNat < 2147483648; omega) (by show y.toNat < 2147483648; omega)
  have d' : x.toNat ^^^ y.toNat < 2147483648 := d
  rw [nb_t (by rw [t]; exact d'), t]
  omega
section
variable {L0 : Nat} {xs : Nat → Int32}
theorem at_ {x1 : Int} (h : 0 ≤ x1 ∧ x1 ≤ 1000) (hL : L0 ≤ 1000) : ∃ v : Int, (0 ≤ v ∧ v ≤ 2147483647) ∧ ∀ (s : gx_S) (δ : dS), dm_238 L0 xs x1 s δ = some (v, s, δ) := by
  by_cases q : (L0 : Int) ≤ 1
  · exact ⟨_, nb_a (Int32.ofInt (7919 * x1)) (y := 2147483647) (by omega), fun s δ => by unfold dm_238; rw [if_pos (by omega), if_pos q]⟩
  · have m1 := Int.emod_nonneg x1 (b := (L0 : Int) - 1) (by omega)
    have m2 := Int.emod_lt_of_pos x1 (b := (L0 : Int) - 1) (by omega)
    refine ⟨_, nb_a (Int32.ofInt ((xs (((x1 % ((L0 : Int) - 1)) + 1)).toNat).toInt)) (y := 2147483647) (by omega), fun s δ => ?_⟩
    unfold dm_238
    rw [if_pos (by omega), if_neg q, if_pos (by omega), if_pos (by omega)]
end
/-- the map at m (its fields; 13 cells of its own), a its old row of N -/
def MSh (δ : dS) (m a N : Nat) : Prop := (215 ≤ m ∧ m + 12 < δ.n ∧ a < δ.n ∧ (a = m + 10 ∨ m + 12 < a)) ∧ dO δ m 10 ∧ (AR δ 0 a N ∧ AR δ 0 (m + 11) N ∧ AR δ 0 (m + 12) N) ∧ (AR δ 6 (m + 1) 3 ∧ ∀ g, g < 3 → AR δ 0 (m + 2 + g) 9 ∧ δ.P (m + 1) g = some (m + 2 + g)) ∧ (AR δ 6 (m + 5) 3 ∧ ∀ g, g < 3 → AR δ 0 (m + 6 + g) 4 ∧ δ.P (m + 5) g = some (m + 6 + g)) ∧ AR δ 0 (m + 9) 8 ∧ δ.P m 4 = some a ∧ δ.P m 5 = some (m + 11) ∧ δ.P m 6 = some (m + 12) ∧ δ.P m 7 = some (m + 1) ∧ δ.P m 8 = some (m + 5) ∧ δ.P m 9 = some (m + 9)
def MVl (δ : dS) (m a : Nat) (f : Nat → Int) (R C : Nat) : Prop := (δ.I m 0 = R ∧ δ.I m 1 = C ∧ δ.I m 2 = f 3 ∧ δ.I m 3 = f 4) ∧ (∀ k, k < R * C → δ.I a k = f (52 + 96 * 0 + 12 * (k / C) + k % C)) ∧ (∀ k, k < R * C → δ.I (m + 11) k = f (52 + 96 * 1 + 12 * (k / C) + k % C)) ∧ (∀ k, k < R * C → δ.I (m + 12) k = f (52 + 96 * 2 + 12 * (k / C) + k % C)) ∧ (∀ g z, g < 3 → z < 9 → δ.I (m + 2 + g) z = f (5 + 9 * g + z)) ∧ (∀ g l, g < 3 → l < 4 → δ.I (m + 6 + g) l = f (32 + 4 * g + l)) ∧ ∀ z, z < 8 → δ.I (m + 9) z = f (44 + z)
def MM (δ : dS) (m a : Nat) (f : Nat → Int) (R C : Nat) : Prop := MSh δ m a (R * C) ∧ MVl δ m a f R C
theorem MSh_DF {B c m a N : Nat} {δ ε : dS} (x : DF B c δ ε) (hm : m + 12 < B) (ha : a < B) (M : MSh δ m a N) : MSh ε m a N := by
  obtain ⟨⟨a1, a2, a3, a4⟩, b, ⟨c1, c2, c3⟩, ⟨d1, d2⟩, ⟨e1, e2⟩, g, h1, h2, h3, h4, h5, h6⟩ := M
  have n := x.1
  have p : ∀ k j, k < B → ε.P k j = δ.P k j := fun k j hk => (x.2.1 k hk).2 j
  exact ⟨⟨a1, by omega, by omega, a4⟩, dO_DF x b, ⟨AR_DF x c1, AR_DF x c2, AR_DF x c3⟩, ⟨AR_DF x d1, fun g hg => ⟨AR_DF x (d2 g hg).1, (p _ _ (by omega)).trans (d2 g hg).2⟩⟩, ⟨AR_DF x e1, fun g hg => ⟨AR_DF x (e2 g hg).1, (p _ _ (by omega)).trans (e2 g hg).2⟩⟩, AR_DF x g, (p _ _ (by omega)).trans h1, (p _ _ (by omega)).trans h2, (p _ _ (by omega)).trans h3, (p _ _ (by omega)).trans h4, (p _ _ (by omega)).trans h5, (p _ _ (by omega)).trans h6⟩
theorem MM_DF {B c m a R C : Nat} {f : Nat → Int} {δ ε : dS} (x : DF B c δ ε) (hm : m + 12 < B) (ha : a < B) (M : MM δ m a f R C) : MM ε m a f R C := by
  obtain ⟨M0, ⟨v1, v2, v3, v4⟩, a1, a2, a3, a4, a5, a6⟩ := M
  have p : ∀ k j, k < B → ε.I k j = δ.I k j := fun k j hk => (x.2.1 k hk).1 j
  exact ⟨MSh_DF x hm ha M0, ⟨(p _ _ (by omega)).trans v1, (p _ _ (by omega)).trans v2, (p _ _ (by omega)).trans v3, (p _ _ (by omega)).trans v4⟩, fun k hk => (p _ _ ha).trans (a1 k hk), fun k hk => (p _ _ (by omega)).trans (a2 k hk), fun k hk => (p _ _ (by omega)).trans (a3 k hk), fun g z hg hz => (p _ _ (by omega)).trans (a4 g z hg hz), fun g z hg hz => (p _ _ (by omega)).trans (a5 g z hg hz), fun z hz => (p _ _ (by omega)).trans (a6 z hz)⟩
/-- shapes are alike, one cell's number is written -/
theorem MSh_w {m a N k j : Nat} {x : Int} {δ : dS} (M : MSh δ m a N) : MSh (δ.w k j x) m a N := M
/-! a new map -/
theorem mr_1 {X Y : dS} {d j t k : Nat} (e : Y = (X.al t k).r d j (some X.n)) : Y.n = X.n + 1 ∧ (∀ a b, Y.P a b = if a = d ∧ b = j then some X.n else if a = X.n then none else X.P a b) ∧ (∀ a b, Y.I a b = if a = X.n then 0 else X.I a b) ∧ ∀ a, Y.sh a = if a = X.n then (t, k) else X.sh a := by
  rw [e]
  exact ⟨rfl, fun _ _ => rfl, fun _ _ => rfl, fun _ => rfl⟩
theorem mr_3 {X Y : dS} {d j r k : Nat} (e : Y = (X.mu r k).r d j (some X.n)) : Y.n = X.n + 1 + r ∧ (∀ a b, Y.P a b = if a = d ∧ b = j then some X.n else if a = X.n then (if b < r then some (X.n + 1 + b) else none) else if X.n < a then none else X.P a b) ∧ (∀ a b, Y.I a b = if X.n ≤ a then 0 else X.I a b) ∧ ∀ a, Y.sh a = if a = X.n then (6, r) else if X.n < a then (0, k) else X.sh a := by
  rw [e]
  exact ⟨rfl, fun _ _ => rfl, fun _ _ => rfl, fun _ => rfl⟩
theorem map_new {δ : dS} {m : Nat} (s : gx_S) (h : m + 1 = δ.n) (hO : dO δ m 10) : ∃ ε : dS, dm_256 m s δ = some (s, ε) ∧ ε.n = m + 10 ∧ dO ε m 10 ∧ (AR ε 6 (m + 1) 3 ∧ ∀ g, g < 3 → AR ε 0 (m + 2 + g) 9 ∧ ε.P (m + 1) g = some (m + 2 + g)) ∧ (AR ε 6 (m + 5) 3 ∧ ∀ g, g < 3 → AR ε 0 (m + 6 + g) 4 ∧ ε.P (m + 5) g = some (m + 6 + g)) ∧ AR ε 0 (m + 9) 8 ∧ (ε.P m 7 = some (m + 1) ∧ ε.P m 8 = some (m + 5) ∧ ε.P m 9 = some (m + 9)) ∧ (∀ a b, m < a → ε.I a b = 0) ∧ (∀ b, ε.I m b = δ.I m b) ∧ DF m 9 δ ε := by
  have h0 := hO.1
  obtain ⟨X, hX⟩ : ∃ X, X = (δ.mu 3 9).r m 7 (some δ.n) := ⟨_, rfl⟩
  obtain ⟨Y, hY⟩ : ∃ Y, Y = (X.mu 3 4).r m 8 (some X.n) := ⟨_, rfl⟩
  obtain ⟨Z, hZ⟩ : ∃ Z, Z = (Y.al 0 8).r m 9 (some Y.n) := ⟨_, rfl⟩
  obtain ⟨nX, pX, iX, sX⟩ := mr_3 hX
  obtain ⟨nY, pY, iY, sY⟩ := mr_3 hY
  obtain ⟨nZ, pZ, iZ, sZ⟩ := mr_1 hZ
  have u1 : DF m 4 δ (δ.mu 3 9) := DF_mu δ 3 9 (by omega) (by omega) (by omega)
  have f1 : DF m 4 δ X := by rw [hX]; exact DF_tr u1 (DF_r _ 7 _ (Nat.le_refl _))
  have u2 : DF m 4 X (X.mu 3 4) := DF_mu X 3 4 (by omega) (by omega) (by omega)
  have f2 : DF m 4 X Y := by rw [hY]; exact DF_tr u2 (DF_r _ 8 _ (Nat.le_refl _))
  have u3 : DF m 1 Y (Y.al 0 8) := DF_al Y 0 8 (by omega) (by omega)
  have f3 : DF m 1 Y Z := by rw [hZ]; exact DF_tr u3 (DF_r _ 9 _ (Nat.le_refl _))
  have dX := dO_DF f1 hO
  have dY := dO_DF f2 dX
  have dZ' := dO_DF f3 dY
  refine ⟨Z, ?_, by omega, dZ', ⟨⟨by omega, by omega, ?_⟩, fun g hg => ⟨⟨by omega, by omega, ?_⟩, ?_⟩⟩, ⟨⟨by omega, by omega, ?_⟩, fun g hg => ⟨⟨by omega, by omega, ?_⟩, ?_⟩⟩, ⟨by omega, by omega, ?_⟩, ⟨?_, ?_, ?_⟩, fun a b ha => ?_, fun b => ?_, DF_tr f1 (DF_tr f2 f3)⟩
  · unfold dm_256
    rw [Option.bind_some, show ((3 : Int)).toNat = 3 from rfl, show ((9 : Int)).toNat = 9 from rfl, show ((4 : Int)).toNat = 4 from rfl, show ((8 : Int)).toNat = 8 from rfl, if_pos (dO_DF u1 hO), Option.bind_some, ← hX, Option.bind_some, if_pos (dO_DF u2 dX), Option.bind_some, ← hY, if_pos (by decide), Option.bind_some, if_pos (dO_DF u3 dY), Option.bind_some, ← hZ]
  · rw [sZ, if_neg (by omega), sY, if_neg (by omega), if_neg (by omega), sX, if_pos (by omega)]
  · rw [sZ, if_neg (by omega), sY, if_neg (by omega), if_neg (by omega), sX, if_neg (by omega), if_pos (by omega)]
  · rw [pZ, if_neg (by omega), if_neg (by omega), pY, if_neg (by omega), if_neg (by omega), if_neg (by omega), pX, if_neg (by omega), if_pos (by omega), if_pos hg]
    exact congrArg some (by omega)
  · rw [sZ, if_neg (by omega), sY, if_pos (by omega)]
  · rw [sZ, if_neg (by omega), sY, if_neg (by omega), if_pos (by omega)]
  · rw [pZ, if_neg (by omega), if_neg (by omega), pY, if_neg (by omega), if_pos (by omega), if_pos hg]
    exact congrArg some (by omega)
  · rw [sZ, if_pos (by omega)]
  · rw [pZ, if_neg (by omega), if_neg (by omega), pY, if_neg (by omega), if_neg (by omega), if_neg (by omega), pX, if_pos (by omega)]
    exact congrArg some (by omega)
  · rw [pZ, if_neg (by omega), if_neg (by omega), pY, if_pos (by omega)]
    exact congrArg some (by omega)
  · rw [pZ, if_pos (by omega)]
    exact congrArg some (by omega)
  · rw [iZ]
    by_cases q : a = Y.n
    · rw [if_pos q]
    · rw [if_neg q, iY]
      by_cases q2 : X.n ≤ a
      · rw [if_pos q2]
      · rw [if_neg q2, iX, if_pos (by omega)]
  · rw [iZ, if_neg (by omega), iY, if_neg (by omega), iX, if_neg (by omega)]
