/-! COUNTS' TEXT, read part by part -/
theorem pr_e {α β : Type} {a c : α} {b d : β} (h1 : a = c) (h2 : b = d) : (a, b) = (c, d) := by rw [h1, h2]
theorem nm_1 {tb : Nat → Int} {L r p c : Nat} {v : Int} (h : sgn tb L p = ((48 + c : Nat) : Int)) (hc : c ≤ 9) (hv : 10 * v + c < 10000) : nm tb L (r + 1) v p = nm tb L r (10 * v + c) (p + 1) := by
  rw [nm, h, if_pos (by omega)]
  unfold mn
  rw [if_pos (by omega), show 10 * v + ((48 + c : Nat) : Int) - 48 = 10 * v + c by omega]
theorem nm_0 {tb : Nat → Int} {L r p : Nat} {v : Int} (h : ¬ (48 ≤ sgn tb L p ∧ sgn tb L p ≤ 57)) : nm tb L (r + 1) v p = (v, p) := by
  rw [nm, if_neg h]
/-- the signs of a number -/
theorem nm_y {tb : Nat → Int} {L p y : Nat} (hy : y ≤ 9999) (hd : ∀ i, i < dgl y → sgn tb L (p + i) = dj y (dgl y - 1 - i)) (he : ¬ (48 ≤ sgn tb L (p + dgl y) ∧ sgn tb L (p + dgl y) ≤ 57)) : nm tb L 200 0 p = ((y : Int), p + dgl y) := by
  have d0 : dj y 0 = ((48 + y % 10 : Nat) : Int) := by
    unfold dj
    rw [Nat.pow_zero, Nat.div_one]
  have d1 : dj y 1 = ((48 + y / 10 % 10 : Nat) : Int) := rfl
  have d2 : dj y 2 = ((48 + y / 100 % 10 : Nat) : Int) := rfl
  have d3 : dj y 3 = ((48 + y / 1000 % 10 : Nat) : Int) := rfl
  by_cases q1 : y < 10
  · have e : dgl y = 1 := by
      unfold dgl
      rw [if_pos q1]
    rw [e] at hd he ⊢
    have a0 := hd 0 (by omega)
    rw [Nat.add_zero, show 1 - 1 - 0 = 0 from rfl, d0] at a0
    rw [nm_1 (r := 199) a0 (by omega) (by omega), nm_0 (r := 198) he]
    exact pr_e (by omega) rfl
  · by_cases q2 : y < 100
    · have e : dgl y = 2 := by
        unfold dgl
        rw [if_neg q1, if_pos q2]
      rw [e] at hd he ⊢
      have a0 := hd 0 (by omega)
      have a1 := hd 1 (by omega)
      rw [Nat.add_zero, show 2 - 1 - 0 = 1 from rfl, d1] at a0
      rw [show 2 - 1 - 1 = 0 from rfl, d0] at a1
      rw [nm_1 (r := 199) a0 (by omega) (by omega), nm_1 (r := 198) a1 (by omega) (by omega), nm_0 (r := 197) he]
      exact pr_e (by omega) rfl
    · by_cases q3 : y < 1000
      · have e : dgl y = 3 := by
          unfold dgl
          rw [if_neg q1, if_neg q2, if_pos q3]
        rw [e] at hd he ⊢
        have a0 := hd 0 (by omega)
        have a1 := hd 1 (by omega)
        have a2 := hd 2 (by omega)
        rw [Nat.add_zero, show 3 - 1 - 0 = 2 from rfl, d2] at a0
        rw [show 3 - 1 - 1 = 1 from rfl, d1] at a1
        rw [show 3 - 1 - 2 = 0 from rfl, d0] at a2
        rw [nm_1 (r := 199) a0 (by omega) (by omega), nm_1 (r := 198) a1 (by omega) (by omega), nm_1 (r := 197) a2 (by omega) (by omega), nm_0 (r := 196) he]
        exact pr_e (by omega) rfl
      · have e : dgl y = 4 := by
          unfold dgl
          rw [if_neg q1, if_neg q2, if_neg q3, if_pos (by omega)]
        rw [e] at hd he ⊢
        have a0 := hd 0 (by omega)
        have a1 := hd 1 (by omega)
        have a2 := hd 2 (by omega)
        have a3 := hd 3 (by omega)
        rw [Nat.add_zero, show 4 - 1 - 0 = 3 from rfl, d3] at a0
        rw [show 4 - 1 - 1 = 2 from rfl, d2] at a1
        rw [show 4 - 1 - 2 = 1 from rfl, d1] at a2
        rw [show 4 - 1 - 3 = 0 from rfl, d0] at a3
        rw [nm_1 (r := 199) a0 (by omega) (by omega), nm_1 (r := 198) a1 (by omega) (by omega), nm_1 (r := 197) a2 (by omega) (by omega), nm_1 (r := 196) a3 (by omega) (by omega), nm_0 (r := 195) he]
        exact pr_e (by omega) rfl
theorem dgl_4 {y : Nat} (hy : y ≤ 9999) : dgl y ≤ 4 := by
  unfold dgl
  (repeat' split) <;> omega
/-- a zone's sign -/
def zsn (z : Nat) : Int := if z = 8 then 63 else 97 + z
theorem zsn_r {z : Nat} (hz : z < 9) : (0 ≤ zsn z ∧ zsn z < 128) ∧ sl (zsn z) = z := by
  unfold zsn sl
  by_cases q : z = 8
  · rw [if_pos q, if_pos rfl]
    omega
  · rw [if_neg q, if_neg (by omega), if_pos (by omega)]
    omega
theorem bq_0 : ∀ z : Nat, z < 9 → ∀ T : Nat, T < 2 ^ z → bq (T : Int) (z : Int) = 0 ∧ bset (T : Int) (z : Int) = ((T + 2 ^ z : Nat) : Int) := by decide +kernel
/-- one part: a zone's sign, =, its number; then a comma, or the end -/
theorem ct_part {tb : Nat → Int} {L p z y T k : Nat} {h : Nat → Int} (hz : z < 9) (hT : T < 2 ^ z) (hy : y ≤ 9999) (s0 : sgn tb L p = zsn z) (s1 : sgn tb L (p + 1) = 61) (hd : ∀ i, i < dgl y → sgn tb L (p + 2 + i) = dj y (dgl y - 1 - i)) : (sgn tb L (p + 2 + dgl y) = 44 → cts tb L (k + 1) T p h = cts tb L k ((T + 2 ^ z : Nat) : Int) (p + 2 + dgl y + 1) (uph h z y)) ∧ (sgn tb L (p + 2 + dgl y) = -1 → cts tb L (k + 1) T p h = (-1, uph h z y)) := by
  have d0 := dgl_r y
  have a0 := hd 0 (by omega)
  have b0 := dj_r y (dgl y - 1 - 0)
  rw [Nat.add_zero] at a0
  obtain ⟨b1, b2⟩ := bq_0 z hz T hT
  have z2 := (zsn_r hz).2
  have go : (48 ≤ sgn tb L (p + 2 + dgl y) ∧ sgn tb L (p + 2 + dgl y) ≤ 57 → False) → cts tb L (k + 1) T p h = if sgn tb L (p + 2 + dgl y) = 44 then cts tb L k ((T + 2 ^ z : Nat) : Int) (p + 2 + dgl y + 1) (uph h z y) else if sgn tb L (p + 2 + dgl y) = -1 then (-1, uph h z y) else (8 * ((p + 2 + dgl y : Nat) : Int) + 1, h) := fun ne => by
    rw [cts, nm_y hy hd ne, s0, z2, b1, b2, if_neg (by omega), if_neg (by omega), s1, if_neg (fun t => t rfl), a0, if_neg (fun t => t ⟨by omega, by omega⟩)]
    dsimp only
    rw [if_neg (by omega)]
  refine ⟨fun e => ?_, fun e => ?_⟩
  · rw [go (by omega), if_pos e]
  · rw [go (by omega), if_neg (by omega), if_pos e]
/-- j parts stand in the first n signs: read, they lead to T and h -/
def RD (bs : Nat → Int) (n j T : Nat) (h : Nat → Int) : Prop := ∀ (tb : Nat → Int) (L : Nat), n ≤ L → (∀ i, i < n → tb i = bs i) → ∀ k, (sgn tb L n = 44 → cts tb L (k + j) 0 0 (fun _ => 0) = cts tb L k T (n + 1) h) ∧ (sgn tb L n = -1 → cts tb L (k + j) 0 0 (fun _ => 0) = (-1, h))
theorem sgn_lt {tb : Nat → Int} {L p : Nat} (h : p < L) : sgn tb L p = tb p := if_pos h
/-- a first part -/
theorem RD_0 {bs : Nat → Int} {z y : Nat} (hz : z < 9) (hy : y ≤ 9999) (h0 : bs 0 = zsn z) (h1 : bs 1 = 61) (hd : ∀ i, i < dgl y → bs (2 + i) = dj y (dgl y - 1 - i)) : RD bs (2 + dgl y) 1 (2 ^ z) (uph (fun _ => 0) z y) := fun tb L hL ht k => by
  have g := ct_part (tb := tb) (L := L) (p := 0) (z := z) (y := y) (T := 0) (k := k) (h := fun _ => 0) hz (Nat.pos_of_ne_zero (by have := Nat.one_le_two_pow (n := z); omega)) hy (by rw [sgn_lt (by omega), ht 0 (by omega), h0]) (by rw [sgn_lt (by omega), Nat.zero_add, ht 1 (by omega), h1]) (fun i hi => by rw [Nat.zero_add, sgn_lt (by omega), ht _ (by omega), hd i hi])
  rw [Nat.zero_add, Nat.zero_add] at g
  exact g
/-- a further part -/
theorem RD_1 {bs bs' : Nat → Int} {n j T z y : Nat} {h : Nat → Int} (H : RD bs n j T h) (hz : z < 9) (hT : T < 2 ^ z) (hy : y ≤ 9999) (he : ∀ i, i < n → bs' i = bs i) (hk : bs' n = 44) (h0 : bs' (n + 1) = zsn z) (h1 : bs' (n + 2) = 61) (hd : ∀ i, i < dgl y → bs' (n + 3 + i) = dj y (dgl y - 1 - i)) : RD bs' (n + 3 + dgl y) (j + 1) (T + 2 ^ z) (uph h z y) := fun tb L hL ht k => by
  have a := (H tb L (by omega) (fun i hi => (ht i (by omega)).trans (he i hi)) (k + 1)).1 (by rw [sgn_lt (by omega), ht _ (by omega), hk])
  have g := ct_part (tb := tb) (L := L) (p := n + 1) (z := z) (y := y) (T := T) (k := k) (h := h) hz hT hy (by rw [sgn_lt (by omega), ht _ (by omega), h0]) (by rw [show n + 1 + 1 = n + 2 from rfl, sgn_lt (by omega), ht _ (by omega), h1]) (fun i hi => by rw [show n + 1 + 2 + i = n + 3 + i by omega, sgn_lt (by omega), ht _ (by omega), hd i hi])
  rw [← a, show k + 1 + j = k + (j + 1) by omega, show n + 1 + 2 + dgl y = n + 3 + dgl y by omega] at g
  exact g
theorem RD_e {bs : Nat → Int} {n j T : Nat} {h : Nat → Int} (H : RD bs n j T h) (hn : 0 < n) (hj : j ≤ 9) {tb : Nat → Int} (ht : ∀ i, i < n → tb i = bs i) : ctw tb n = (-1, h) := by
  have e : sgn tb n n = -1 := if_neg (Nat.lt_irrefl n)
  have g := (H tb n (Nat.le_refl n) ht (51 - j)).2 e
  unfold ctw
  rw [if_neg (by omega), ← g, show 51 - j + j = 51 by omega]
/-- appended: a number behind a row of signs -/
theorem apn_d {bs : Nat → Int} {n y : Nat} (i : Nat) (hi : i < dgl y) : apn bs n (y : Int) (n + i) = dj y (dgl y - 1 - i) := by
  have e : dln (y : Int) = dgl y := by
    unfold dln
    rw [if_neg (by omega), Int.toNat_natCast]
  unfold apn dby
  rw [if_neg (by omega), if_neg (by omega), Int.toNat_natCast, e, show n + dgl y - 1 - (n + i) = dgl y - 1 - i by omega]
theorem dln_n (y : Nat) : dln (y : Int) = dgl y := by
  unfold dln
  rw [if_neg (by omega), Int.toNat_natCast]
theorem apn_o {bs : Nat → Int} {n : Nat} {x : Int} {i : Nat} (h : i < n) : apn bs n x i = bs i := if_pos h
theorem ap_n {bs : Nat → Int} {n : Nat} {x : Int} : ap_ bs n x n = x := if_pos rfl
theorem ap_o {bs : Nat → Int} {n : Nat} {x : Int} {i : Nat} (h : i < n) : ap_ bs n x i = bs i := if_neg (by omega)
