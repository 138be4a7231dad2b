/-! TEXTS told: four bytes to an int, five ints to a call -/
def pw (bs : Nat → Int) (a : Nat) : Nat → Int
  | 0 => 0
  | c + 1 => (Int32.ofInt (pw bs a c) ||| Int32.ofInt ((Int32.ofInt (bs (a + c)) <<< (Int32.ofInt (24 - 8 * (c : Int)) &&& 31)).toInt)).toInt
theorem pw_sh : ∀ b : Nat, b < 128 → ∀ c : Nat, c < 4 → (Int32.ofInt ((Int32.ofInt (b : Int) <<< (Int32.ofInt (24 - 8 * (c : Int)) &&& 31)).toInt)).toBitVec.toNat = b * 2 ^ (24 - 8 * c) := by decide +kernel
theorem pw_or {x y : Int32} {i a : Nat} (hx : x.toBitVec.toNat = 2 ^ i * a) (hy : y.toBitVec.toNat < 2 ^ i) : (Int32.ofInt ((x ||| y).toInt)).toBitVec.toNat = x.toBitVec.toNat + y.toBitVec.toNat := by
  rw [Int32.ofInt_toInt, Int32.toBitVec_or, BitVec.toNat_or, hx, ← Nat.two_pow_add_eq_or_of_lt hy]
theorem pw_N {bs : Nat → Int} {a b0 b1 b2 b3 : Nat} (h0 : bs (a + 0) = b0) (h1 : bs (a + 1) = b1) (h2 : bs (a + 2) = b2) (h3 : bs (a + 3) = b3) (k0 : b0 < 128) (k1 : b1 < 128) (k2 : b2 < 128) (k3 : b3 < 128) : (Int32.ofInt (pw bs a 0)).toBitVec.toNat = 0 ∧ (Int32.ofInt (pw bs a 1)).toBitVec.toNat = b0 * 16777216 ∧ (Int32.ofInt (pw bs a 2)).toBitVec.toNat = b0 * 16777216 + b1 * 65536 ∧ (Int32.ofInt (pw bs a 3)).toBitVec.toNat = b0 * 16777216 + b1 * 65536 + b2 * 256 ∧ (Int32.ofInt (pw bs a 4)).toBitVec.toNat = b0 * 16777216 + b1 * 65536 + b2 * 256 + b3 := by
  have n0 : (Int32.ofInt (pw bs a 0)).toBitVec.toNat = 0 := by
    show (Int32.ofInt 0).toBitVec.toNat = 0
    decide +kernel
  have s0 := pw_sh b0 k0 0 (by omega)
  have s1 := pw_sh b1 k1 1 (by omega)
  have s2 := pw_sh b2 k2 2 (by omega)
  have s3 := pw_sh b3 k3 3 (by omega)
  rw [show 2 ^ (24 - 8 * 0) = 16777216 from rfl] at s0
  rw [show 2 ^ (24 - 8 * 1) = 65536 from rfl] at s1
  rw [show 2 ^ (24 - 8 * 2) = 256 from rfl] at s2
  rw [show 2 ^ (24 - 8 * 3) = 1 from rfl] at s3
  have n1 : (Int32.ofInt (pw bs a 1)).toBitVec.toNat = b0 * 16777216 := by
    rw [pw, pw_or (i := 32) (a := 0) (by rw [n0]) (by rw [h0, s0]; show b0 * 16777216 < 4294967296; omega), n0, h0, s0, Nat.zero_add]
  have n2 : (Int32.ofInt (pw bs a 2)).toBitVec.toNat = b0 * 16777216 + b1 * 65536 := by
    rw [pw, pw_or (i := 24) (a := b0) (by rw [n1, Nat.mul_comm]) (by rw [h1, s1]; show b1 * 65536 < 16777216; omega), n1, h1, s1]
  have n3 : (Int32.ofInt (pw bs a 3)).toBitVec.toNat = b0 * 16777216 + b1 * 65536 + b2 * 256 := by
    rw [pw, pw_or (i := 16) (a := b0 * 256 + b1) (by rw [n2]; show _ = 65536 * (b0 * 256 + b1); omega) (by rw [h2, s2]; show b2 * 256 < 65536; omega), n2, h2, s2]
  have n4 : (Int32.ofInt (pw bs a 4)).toBitVec.toNat = b0 * 16777216 + b1 * 65536 + b2 * 256 + b3 := by
    rw [pw, pw_or (i := 8) (a := b0 * 65536 + b1 * 256 + b2) (by rw [n3]; show _ = 256 * (b0 * 65536 + b1 * 256 + b2); omega) (by rw [h3, s3]; show b3 * 1 < 256; omega), n3, h3, s3, Nat.mul_one]
  exact ⟨n0, n1, n2, n3, n4⟩
theorem cby_n (x : Int) (n : Nat) (k : Int) (h : (n = 24 ∧ k = 24) ∨ (n = 16 ∧ k = 16) ∨ (n = 8 ∧ k = 8) ∨ (n = 0 ∧ k = 0)) : cby x k = (((Int32.ofInt x).toBitVec.toNat / 2 ^ n % 256 : Nat) : Int) := by
  have b := by_u (Int32.ofInt x).toUInt32 n k h
  unfold cby
  rw [Int32.ofInt_toInt]
  have e : (((Int32.ofInt x).toUInt32 >>> ((Int32.ofInt k).toUInt32 &&& Int32.toUInt32 31)).toInt32 &&& Int32.ofInt 255).toInt = (((Int32.ofInt x).toUInt32 >>> ((Int32.ofInt k).toUInt32 &&& Int32.toUInt32 31)).toBitVec &&& 255#32).toInt := rfl
  rw [e, b]
  have m : ((Int32.ofInt x).toUInt32.toBitVec >>> n &&& 255#32).toNat = (Int32.ofInt x).toBitVec.toNat / 2 ^ n % 256 := by
    rw [BitVec.toNat_and, BitVec.toNat_ushiftRight, Nat.shiftRight_eq_div_pow]
    exact Nat.and_two_pow_sub_one_eq_mod _ 8
  rw [BitVec.toInt_eq_toNat_of_lt (by rw [m]; have := Nat.mod_lt ((Int32.ofInt x).toBitVec.toNat / 2 ^ n) (show 0 < 256 by omega); omega), m]
theorem pw_cby {bs : Nat → Int} {a c m : Nat} (hb : ∀ i, a ≤ i → i < a + 4 → 0 ≤ bs i ∧ bs i < 128) (hc : c ≤ 4) (hm : m < 4) : cby (pw bs a c) (24 - 8 * (m : Int)) = if m < c then bs (a + m) else 0 := by
  have g : ∀ i, i < 4 → ∃ b : Nat, bs (a + i) = b ∧ b < 128 := fun i hi => by
    have := hb (a + i) (by omega) (by omega)
    exact ⟨(bs (a + i)).toNat, by omega, by omega⟩
  obtain ⟨b0, h0, k0⟩ := g 0 (by omega)
  obtain ⟨b1, h1, k1⟩ := g 1 (by omega)
  obtain ⟨b2, h2, k2⟩ := g 2 (by omega)
  obtain ⟨b3, h3, k3⟩ := g 3 (by omega)
  obtain ⟨n0, n1, n2, n3, n4⟩ := pw_N h0 h1 h2 h3 k0 k1 k2 k3
  have c24 := cby_n (pw bs a c) 24 24 (by omega)
  have c16 := cby_n (pw bs a c) 16 16 (by omega)
  have c8 := cby_n (pw bs a c) 8 8 (by omega)
  have c0 := cby_n (pw bs a c) 0 0 (by omega)
  rw [show 2 ^ 24 = 16777216 from rfl] at c24
  rw [show 2 ^ 16 = 65536 from rfl] at c16
  rw [show 2 ^ 8 = 256 from rfl] at c8
  rw [Nat.pow_zero, Nat.div_one] at c0
  have nc : (Int32.ofInt (pw bs a c)).toBitVec.toNat = (if 0 < c then b0 * 16777216 else 0) + (if 1 < c then b1 * 65536 else 0) + (if 2 < c then b2 * 256 else 0) + (if 3 < c then b3 else 0) := by
    rcases (show c = 0 ∨ c = 1 ∨ c = 2 ∨ c = 3 ∨ c = 4 by omega) with e | e | e | e | e
    · rw [e, n0]
      (repeat' split) <;> omega
    · rw [e, n1]
      (repeat' split) <;> omega
    · rw [e, n2]
      (repeat' split) <;> omega
    · rw [e, n3]
      (repeat' split) <;> omega
    · rw [e, n4]
      (repeat' split) <;> omega
  rw [nc] at c24 c16 c8 c0
  rcases (show m = 0 ∨ m = 1 ∨ m = 2 ∨ m = 3 by omega) with e | e | e | e
  · rw [e, show (24 : Int) - 8 * ((0 : Nat) : Int) = 24 from rfl, c24, h0]
    split <;> split <;> split <;> split <;> omega
  · rw [e, show (24 : Int) - 8 * ((1 : Nat) : Int) = 16 from rfl, c16, h1]
    split <;> split <;> split <;> split <;> omega
  · rw [e, show (24 : Int) - 8 * ((2 : Nat) : Int) = 8 from rfl, c8, h2]
    split <;> split <;> split <;> split <;> omega
  · rw [e, show (24 : Int) - 8 * ((3 : Nat) : Int) = 0 from rfl, c0, h3]
    split <;> split <;> split <;> split <;> omega
theorem app_o {tb : Nat → Int} {L : Nat} {x : Int} {i : Nat} (h : i < L ∨ L + 4 ≤ i) : app tb L x i = tb i := by
  unfold app
  rw [if_neg (by omega), if_neg (by omega), if_neg (by omega), if_neg (by omega)]
theorem app_i {tb : Nat → Int} {L : Nat} {x : Int} {m : Nat} (h : m < 4) : app tb L x (L + m) = cby x (24 - 8 * (m : Int)) := by
  unfold app
  rcases (show m = 0 ∨ m = 1 ∨ m = 2 ∨ m = 3 by omega) with e | e | e | e
  · rw [e, if_pos (by omega)]; rfl
  · rw [e, if_neg (by omega), if_pos rfl]; rfl
  · rw [e, if_neg (by omega), if_neg (by omega), if_pos rfl]; rfl
  · rw [e, if_neg (by omega), if_neg (by omega), if_neg (by omega), if_pos rfl]; rfl
theorem ap5_o {tb : Nat → Int} {L : Nat} {a b c d e : Int} {i : Nat} (h : i < L) : ap5 tb L a b c d e i = tb i := by
  unfold ap5
  rw [app_o (by omega), app_o (by omega), app_o (by omega), app_o (by omega), app_o (by omega)]
theorem ap5_i {tb F : Nat → Int} {L i : Nat} (h : i < 20) : ap5 tb L (F 0) (F 1) (F 2) (F 3) (F 4) (L + i) = cby (F (i / 4)) (24 - 8 * ((i % 4 : Nat) : Int)) := by
  unfold ap5
  rcases (show i / 4 = 0 ∨ i / 4 = 1 ∨ i / 4 = 2 ∨ i / 4 = 3 ∨ i / 4 = 4 by omega) with e | e | e | e | e
  · rw [e, app_o (by omega), app_o (by omega), app_o (by omega), app_o (by omega), show L + i = L + i % 4 by omega, app_i (by omega)]
  · rw [e, app_o (by omega), app_o (by omega), app_o (by omega), show L + i = L + 4 + i % 4 by omega, app_i (by omega)]
  · rw [e, app_o (by omega), app_o (by omega), show L + i = L + 8 + i % 4 by omega, app_i (by omega)]
  · rw [e, app_o (by omega), show L + i = L + 12 + i % 4 by omega, app_i (by omega)]
  · rw [e, show L + i = L + 16 + i % 4 by omega, app_i (by omega)]
/-- how many bytes stand in the j-th int, of r -/
def cj (j r : Nat) : Nat := if r ≤ 4 * j then 0 else if 4 * j + 4 ≤ r then 4 else r - 4 * j
theorem cj_r (j r : Nat) : cj j r ≤ 4 := by
  unfold cj
  (repeat' split) <;> omega
section
variable {L0 : Nat} {xs : Nat → Int32} {f : Nat → Int} {R C n : Nat} {pf : Nat → Nat → Int}
theorem tx_85 {K : Nat → Nat → Int → gx_S → dS → Option (Int × DS)} {x t k : Nat} {s : gx_S} : ∀ (m j : Nat) (δ : dS), 5 < m + j → j ≤ 5 → AR δ 0 t 5 → ∃ ε : dS, dm_237_85 L0 xs K m x t k j s δ = K x t ((k + 1 : Nat) : Int) s ε ∧ WR δ ε t 0 5 ∧ (∀ i, j ≤ i → i < 5 → ε.I t i = 0) ∧ ∀ i, i < j → ε.I t i = δ.I t i := by
  intro m
  induction m with
  | zero => intro j δ h; omega
  | succ m ih =>
    intro j δ h hj hA
    rw [dm_237_85, if_pos (by omega)]
    by_cases q : j = 5
    · rw [if_pos (by omega)]
      exact ⟨δ, rfl, WR_rf δ t 0 5, fun i h1 h2 => by omega, fun i _ => rfl⟩
    · rw [if_neg (by omega), if_pos (AR_A hA), if_pos (AR_I hA (by omega)), Option.bind_some, show ((j : Int)).toNat = j by omega, show (j : Int) + 1 = ((j + 1 : Nat) : Int) from rfl]
      have w1 : WR δ (δ.w t j 0) t 0 5 := WR_w δ 0 (by omega)
      obtain ⟨ε, e1, e2, e3, e4⟩ := ih (j + 1) (δ.w t j 0) (by omega) (by omega) ⟨hA.1, hA.2.1, hA.2.2⟩
      refine ⟨ε, e1, WR_tr w1 e2, fun i h1 h2 => ?_, fun i hi => by rw [e4 i (by omega), dw_I, if_neg (by omega)]⟩
      by_cases z : i = j
      · rw [e4 i (by omega), dw_I, if_pos ⟨rfl, z⟩]
      · exact e3 i (by omega) h2
theorem tx_62 {K : Nat → Nat → Int → gx_S → dS → Option (Int × DS)} {x t k B : Nat} {s : gx_S} {δ : dS} {tb : Nat → Int} (h : QS f R C n pf B tb s) (hB : B + 20 ≤ 200) (hA : AR δ 0 t 5) : ∃ (u : gx_S) (ε : dS), dm_237_62 L0 xs K x t k s δ = K x t ((k + 1 : Nat) : Int) u ε ∧ QS f R C n pf (B + 20) (ap5 tb B (δ.I t 0) (δ.I t 1) (δ.I t 2) (δ.I t 3) (δ.I t 4)) u ∧ WR δ ε t 0 5 ∧ ∀ i, i < 5 → ε.I t i = 0 := by
  obtain ⟨u, u1, u2⟩ := qs_feed h hB (δ.I t 0) (δ.I t 1) (δ.I t 2) (δ.I t 3) (δ.I t 4)
  obtain ⟨ε, e1, e2, e3, e4⟩ := tx_85 (L0 := L0) (xs := xs) (K := K) (x := x) (t := t) (k := k) (s := u) 100000 0 δ (by omega) (by omega) hA
  refine ⟨u, ε, ?_, u2, e2, fun i hi => e3 i (by omega) hi⟩
  unfold dm_237_62
  rw [if_pos (AR_A hA), if_pos (show dI δ t 0 from AR_I (i := 0) hA (by omega)), if_pos (show dI δ t 1 from AR_I (i := 1) hA (by omega)), if_pos (show dI δ t 2 from AR_I (i := 2) hA (by omega)), if_pos (show dI δ t 3 from AR_I (i := 3) hA (by omega)), if_pos (show dI δ t 4 from AR_I (i := 4) hA (by omega))]
  show ((gm_85 (δ.I t 0) (δ.I t 1) (δ.I t 2) (δ.I t 3) (δ.I t 4) s).bind _) = _
  rw [u1, Option.bind_some]
  exact e1
theorem tx_end {x v t N B m : Nat} {bs tb : Nat → Int} {s : gx_S} {δ : dS} (h : QS f R C n pf B tb s) (S : STR δ x v N bs) (hN : N ≤ B) : ∃ u : gx_S, dm_237_6 L0 xs (m + 1) x t N s δ = some ((N : Int), u, δ) ∧ QS f R C n pf N tb u := by
  have hB := h.2.2.1
  obtain ⟨u, u1, u2⟩ := qs_end h hN
  refine ⟨u, ?_, u2⟩
  rw [dm_237_6, if_pos S.1, st_len s S (by omega), Option.bind_some]
  dsimp only
  rw [if_pos (by omega), if_pos (by omega), if_pos (Int.le_refl _), if_pos S.1, st_len s S (by omega), Option.bind_some]
  dsimp only
  rw [u1, Option.bind_some]
theorem STR_WR {x v N t lo hi : Nat} {bs : Nat → Int} {δ ε : dS} (w : WR δ ε t lo hi) (S : STR δ x v N bs) (h1 : x ≠ t) (h2 : v ≠ t) : STR ε x v N bs := by
  obtain ⟨s1, s2, s3, s4, s5⟩ := S
  obtain ⟨w1, w2, w3, w4⟩ := w
  exact ⟨⟨s1.1, by rw [w3]; exact s1.2.1, by rw [w2]; exact s1.2.2⟩, by rw [w1]; exact s2, ⟨s3.1, by rw [w3]; exact s3.2.1, by rw [w2]; exact s3.2.2⟩, (w4 _ _ (fun q => h1 q.1)).trans s4, fun i hi => (w4 _ _ (fun q => h2 q.1)).trans (s5 i hi)⟩
theorem AR_WR {δ ε : dS} {v lo hi t k n : Nat} (x : WR δ ε v lo hi) (h : AR δ t k n) : AR ε t k n := ⟨h.1, by rw [x.2.2.1]; exact h.2.1, by rw [x.2.1]; exact h.2.2⟩
set_option maxHeartbeats 1000000 in
theorem tx_6 {x v t N : Nat} {bs : Nat → Int} (hN : N ≤ 200) (hb : ∀ i, 0 ≤ bs i ∧ bs i < 128) (hx : x ≠ t) (hv : v ≠ t) : ∀ (m k : Nat) (s : gx_S) (δ : dS) (tb : Nat → Int), N < m + k → k < N → QS f R C n pf (20 * (k / 20)) tb s → (∀ i, i < 20 * (k / 20) → tb i = bs i) → STR δ x v N bs → AR δ 0 t 5 → (∀ j, j < 5 → δ.I t j = pw bs (20 * (k / 20) + 4 * j) (cj j (k % 20))) → ∃ (u : gx_S) (ε : dS) (tb' : Nat → Int), dm_237_6 L0 xs m x t k s δ = some ((N : Int), u, ε) ∧ QS f R C n pf N tb' u ∧ (∀ i, i < N → tb' i = bs i) ∧ WR δ ε t 0 5 := by
  intro m
  induction m with
  | zero => intro k s δ tb h; omega
  | succ m ih =>
    intro k s δ tb h hk hQ htb S hA ht
    have t0 := AR_A hA
    have t1 : dI δ t (((k % 20 / 4 : Nat)) : Int) := AR_I hA (by omega)
    have e1 : ((k : Int) % 20) / 4 = ((k % 20 / 4 : Nat) : Int) := by omega
    have e2 : (24 : Int) - 8 * ((k : Int) % 4) = 24 - 8 * ((k % 4 : Nat) : Int) := by omega
    have eb : k = 20 * (k / 20) + 4 * (k % 20 / 4) + k % 4 := by omega
    have ew : (Int32.ofInt (δ.I t (k % 20 / 4)) ||| Int32.ofInt ((Int32.ofInt (bs k) <<< (Int32.ofInt (24 - 8 * ((k % 4 : Nat) : Int)) &&& 31)).toInt)).toInt = pw bs (20 * (k / 20) + 4 * (k % 20 / 4)) (k % 4 + 1) := by
      rw [ht _ (by omega), show cj (k % 20 / 4) (k % 20) = k % 4 by unfold cj; (repeat' split) <;> omega, pw, ← eb]
    obtain ⟨W, hW⟩ : ∃ W, W = pw bs (20 * (k / 20) + 4 * (k % 20 / 4)) (k % 4 + 1) := ⟨_, rfl⟩
    rw [← hW] at ew
    obtain ⟨ε, hε⟩ : ∃ ε, ε = δ.w t (k % 20 / 4) W := ⟨_, rfl⟩
    have w1 : WR δ ε t 0 5 := by rw [hε]; exact WR_w δ W (by omega)
    have S1 := STR_WR w1 S hx hv
    have A1 := AR_WR w1 hA
    have tt : ∀ j, j < 5 → ε.I t j = pw bs (20 * (k / 20) + 4 * j) (cj j (k % 20 + 1)) := fun j hj => by
      rw [hε, dw_I]
      by_cases q : j = k % 20 / 4
      · rw [if_pos ⟨rfl, q⟩, hW, q, show cj (k % 20 / 4) (k % 20 + 1) = k % 4 + 1 by unfold cj; (repeat' split) <;> omega]
      · rw [if_neg (fun z => q z.2), ht j hj, show cj j (k % 20 + 1) = cj j (k % 20) by unfold cj; (repeat' split) <;> omega]
    -- what a call leaves
    have feed : ∃ (u : gx_S) (ε' : dS) (tb' : Nat → Int), dm_237_62 L0 xs (dm_237_6 L0 xs m) x t k s ε = some ((N : Int), u, ε') ∧ QS f R C n pf N tb' u ∧ (∀ i, i < N → tb' i = bs i) ∧ WR ε ε' t 0 5 ∨ ¬ (19 ≤ k % 20 ∨ N ≤ k + 1) := by
      by_cases c : 19 ≤ k % 20 ∨ N ≤ k + 1
      · obtain ⟨u, ζ, z1, z2, z3, z4⟩ := tx_62 (L0 := L0) (xs := xs) (K := dm_237_6 L0 xs m) (x := x) (k := k) hQ (by omega) A1
        have tv : ∀ i, i < k + 1 → ap5 tb (20 * (k / 20)) (ε.I t 0) (ε.I t 1) (ε.I t 2) (ε.I t 3) (ε.I t 4) i = bs i := fun i hi => by
          by_cases q : i < 20 * (k / 20)
          · rw [ap5_o q]
            exact htb i q
          · obtain ⟨r, rfl⟩ : ∃ r, i = 20 * (k / 20) + r := ⟨i - 20 * (k / 20), by omega⟩
            rw [ap5_i (F := fun j => ε.I t j) (by omega), tt _ (by omega), pw_cby (fun i _ _ => hb i) (cj_r _ _) (by omega), if_pos (by unfold cj; (repeat' split) <;> omega)]
            congr 1
            omega
        by_cases e : k + 1 = N
        · obtain ⟨m', rfl⟩ : ∃ m', m = m' + 1 := ⟨m - 1, by omega⟩
          obtain ⟨u', y1, y2⟩ := tx_end (L0 := L0) (xs := xs) (t := t) (m := m') z2 (STR_WR z3 S1 hx hv) (by omega)
          rw [e] at z1
          exact ⟨u', ζ, _, .inl ⟨z1.trans y1, y2, fun i hi => tv i (by omega), z3⟩⟩
        · have k20 : 20 * ((k + 1) / 20) = 20 * (k / 20) + 20 := by omega
          obtain ⟨u', ζ', tb', y1, y2, y3, y4⟩ := ih (k + 1) u ζ (ap5 tb (20 * (k / 20)) (ε.I t 0) (ε.I t 1) (ε.I t 2) (ε.I t 3) (ε.I t 4)) (by omega) (by omega) (by rw [k20]; exact z2) (fun i hi => tv i (by omega)) (STR_WR z3 S1 hx hv) (AR_WR z3 A1) fun j hj => by
            rw [z4 j hj, show (k + 1) % 20 = 0 by omega]
            rfl
          exact ⟨u', ζ', tb', .inl ⟨z1.trans y1, y2, y3, WR_tr z3 y4⟩⟩
      · exact ⟨s, ε, tb, .inr c⟩
    have st : dm_237_6 L0 xs (m + 1) x t k s δ = if 19 ≤ (k : Int) % 20 then dm_237_62 L0 xs (dm_237_6 L0 xs m) x t k s ε else if (N : Int) ≤ (k : Int) + 1 then dm_237_62 L0 xs (dm_237_6 L0 xs m) x t k s ε else dm_237_6 L0 xs m x t ((k : Int) + 1) s ε := by
      rw [dm_237_6, if_pos S.1, st_len s S (by omega), Option.bind_some]
      dsimp only
      rw [if_pos (by omega), if_pos (by omega), if_neg (by omega), if_pos (by omega), if_pos (by omega), if_pos t0, e1, if_pos t1, if_pos S.1, st_at s S (by omega) hk (hb k), Option.bind_some]
      dsimp only
      rw [if_pos t0, if_pos t1, Option.bind_some, e2, show (((k % 20 / 4 : Nat) : Int)).toNat = k % 20 / 4 by omega, ew, ← hε, if_pos (by omega)]
      by_cases q : 19 ≤ (k : Int) % 20
      · rw [if_pos q, if_pos q]
      · rw [if_neg q, if_neg q, if_pos S1.1, st_len s S1 (by omega), Option.bind_some]
        dsimp only
        rw [if_pos (by omega), if_pos (by omega)]
        rfl
    rw [st]
    by_cases q : 19 ≤ (k : Int) % 20
    · rw [if_pos q]
      obtain ⟨u, ζ, tb', z | z⟩ := feed
      · exact ⟨u, ζ, tb', z.1, z.2.1, z.2.2.1, WR_tr w1 z.2.2.2⟩
      · exact absurd (show 19 ≤ k % 20 ∨ N ≤ k + 1 by omega) z
    · rw [if_neg q]
      by_cases q2 : (N : Int) ≤ (k : Int) + 1
      · rw [if_pos q2]
        obtain ⟨u, ζ, tb', z | z⟩ := feed
        · exact ⟨u, ζ, tb', z.1, z.2.1, z.2.2.1, WR_tr w1 z.2.2.2⟩
        · exact absurd (show 19 ≤ k % 20 ∨ N ≤ k + 1 by omega) z
      · rw [if_neg q2]
        have k20 : (k + 1) / 20 = k / 20 := by omega
        obtain ⟨u', ζ', tb', y1, y2, y3, y4⟩ := ih (k + 1) s ε tb (by omega) (by omega) (by rw [k20]; exact hQ) (by rw [k20]; exact htb) S1 A1 fun j hj => by
          rw [tt j hj, k20, show (k + 1) % 20 = k % 20 + 1 by omega]
        exact ⟨u', ζ', tb', y1, y2, y3, WR_tr w1 y4⟩
theorem DF_WR {m t lo hi : Nat} {δ ε : dS} (h : m ≤ t) (w : WR δ ε t lo hi) : DF m 0 δ ε := ⟨by rw [w.2.2.1]; omega, fun a ha => ⟨fun b => w.2.2.2 a b fun q => by omega, fun b => by rw [w.1]⟩, fun a _ => by rw [w.2.1], fun a h1 h2 => by rw [w.2.2.1] at h2; omega⟩
/-- a text is told: the tape has its bytes alone -/
theorem tx_ {x v N : Nat} {bs tb : Nat → Int} {s : gx_S} {δ : dS} (hN : N ≤ 200) (hb : ∀ i, 0 ≤ bs i ∧ bs i < 128) (h : QS f R C n pf 0 tb s) (S : STR δ x v N bs) : ∃ (u : gx_S) (ε : dS) (tb' : Nat → Int), dm_237 L0 xs x s δ = some ((N : Int), u, ε) ∧ QS f R C n pf N tb' u ∧ (∀ i, i < N → tb' i = bs i) ∧ DF δ.n 1 δ ε := by
  have f1 : DF δ.n 1 δ (δ.al 0 5) := DF_al δ 0 5 (Nat.le_refl _) (by omega)
  have x0 := S.1.1
  have xn := S.1.2.1
  have vn := S.2.2.1.2.1
  have S1 := STR_DF f1 xn vn S
  have A1 : AR (δ.al 0 5) 0 δ.n 5 := ⟨by omega, by rw [da_n]; omega, by rw [da_sh, if_pos rfl]⟩
  unfold dm_237
  rw [if_pos (by decide), Option.bind_some, show ((5 : Int)).toNat = 5 from rfl]
  by_cases q : N = 0
  · obtain ⟨u, y1, y2⟩ := tx_end (L0 := L0) (xs := xs) (t := δ.n) (m := 99999) h S1 (by omega)
    rw [q] at y1 y2
    rw [q]
    exact ⟨u, _, tb, y1, y2, fun i hi => by omega, f1⟩
  · obtain ⟨u, ε, tb', y1, y2, y3, y4⟩ := tx_6 (L0 := L0) (xs := xs) (t := δ.n) hN hb (by omega) (by omega) 100000 0 s (δ.al 0 5) tb (by omega) (by omega) h (fun i hi => by omega) S1 A1 fun j hj => by
      rw [da_I, if_pos rfl]
      show (0 : Int) = pw bs _ (cj j 0)
      rw [show cj j 0 = 0 from if_pos (Nat.zero_le _)]
      rfl
    exact ⟨u, ε, tb', y1, y2, y3, DF_tr f1 (DF_WR (Nat.le_refl _) y4)⟩
end
