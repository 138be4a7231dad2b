/-! QUERIES: apart: the zones met -/
def st_ (s : gx_S) (q : Int × gx_S) : Int × gx_S := (q.1, s)
theorem nz_62 (a b : Int) (s : gx_S) : gm_229_62 a b s = (gm_229_62 a b z0_).map (st_ s) := by
  unfold gm_229_62
  by_cases h1 : -2147483648 ≤ a ∧ a ≤ 2147483647
  · rw [if_pos h1, if_pos h1]
    by_cases h2 : a ≤ 4
    · rw [if_pos h2, if_pos h2]
      rfl
    · rw [if_neg h2, if_neg h2]
      rfl
  · rw [if_neg h1, if_neg h1]
    rfl
theorem nz_49 (a b : Int) (s : gx_S) : gm_229_49 a b s = (gm_229_49 a b z0_).map (st_ s) := by
  unfold gm_229_49
  by_cases h1 : -2147483648 ≤ a ∧ a ≤ 2147483647
  · rw [if_pos h1, if_pos h1]
    by_cases h2 : a ≤ 16
    · rw [if_pos h2, if_pos h2]
      exact nz_62 _ _ s
    · rw [if_neg h2, if_neg h2]
      exact nz_62 _ _ s
  · rw [if_neg h1, if_neg h1]
    rfl
theorem nz_34 (a b : Int) (s : gx_S) : gm_229_34 a b s = (gm_229_34 a b z0_).map (st_ s) := by
  unfold gm_229_34
  by_cases h1 : -2147483648 ≤ a ∧ a ≤ 2147483647
  · rw [if_pos h1, if_pos h1]
    by_cases h2 : a ≤ 256
    · rw [if_pos h2, if_pos h2]
      exact nz_49 _ _ s
    · rw [if_neg h2, if_neg h2]
      exact nz_49 _ _ s
  · rw [if_neg h1, if_neg h1]
    rfl
theorem nz_s (v : Int) (s : gx_S) : gm_229 v s = (gm_229 v z0_).map (st_ s) := by
  unfold gm_229
  by_cases h1 : -2147483648 ≤ ((Int32.ofInt (((Int32.ofInt v ^^^ Int32.ofInt (-1))).toInt) &&& Int32.ofInt (v - 1))).toInt ∧ ((Int32.ofInt (((Int32.ofInt v ^^^ Int32.ofInt (-1))).toInt) &&& Int32.ofInt (v - 1))).toInt ≤ 2147483647
  · rw [if_pos h1, if_pos h1]
    by_cases h2 : 0 < ((Int32.ofInt (((Int32.ofInt v ^^^ Int32.ofInt (-1))).toInt) &&& Int32.ofInt (v - 1))).toInt
    · rw [if_pos h2, if_pos h2]
      by_cases h3 : ((Int32.ofInt (((Int32.ofInt v ^^^ Int32.ofInt (-1))).toInt) &&& Int32.ofInt (v - 1))).toInt ≤ 65536
      · rw [if_pos h3, if_pos h3]
        exact nz_34 _ _ s
      · rw [if_neg h3, if_neg h3]
        exact nz_34 _ _ s
    · rw [if_neg h2, if_neg h2]
      rfl
  · rw [if_neg h1, if_neg h1]
    rfl
theorem nz_2 : ∀ o : Nat, o < 8 → (gm_229 ((2 ^ o : Nat) : Int) z0_).map (fun q => q.1) = some (o : Int) := by decide +kernel
theorem sp_229 {o : Nat} (h : o < 8) (s : gx_S) : gm_229 ((2 ^ o : Nat) : Int) s = some ((o : Int), s) := by
  have a := nz_2 o h
  rw [nz_s]
  cases e : gm_229 ((2 ^ o : Nat) : Int) z0_ with
  | none =>
    rw [e] at a
    exact absurd a (by intro h; cases h)
  | some q =>
    rw [e] at a
    have a : some q.1 = some (o : Int) := a
    show some (q.1, s) = _
    rw [Option.some.inj a]
/-- the new zones met by zone x in the first k cells, as bits -/
def mbs (f : Nat → Int) (C : Nat) (x : Int) : Nat → Int
  | 0 => 0
  | k + 1 => if f (52 + 96 * 0 + 12 * (k / C) + k % C) = x then bset (mbs f C x k) (f (52 + 96 * 1 + 12 * (k / C) + k % C)) else mbs f C x k
/-- OLD and NEW are told -/
abbrev TT (f : Nat → Int) : Prop := f 2 / 2 ^ 0 % 2 = 1 ∧ f 2 / 2 ^ 1 % 2 = 1
theorem old_r {f : Nat → Int} {R C k : Nat} (M : MP f R C) (T : TT f) (hk : k < R * C) : (0 ≤ f (52 + 96 * 0 + 12 * (k / C) + k % C) ∧ f (52 + 96 * 0 + 12 * (k / C) + k % C) ≤ 8) ∧ 0 ≤ f (52 + 96 * 1 + 12 * (k / C) + k % C) ∧ f (52 + 96 * 1 + 12 * (k / C) + k % C) ≤ 8 := by
  have a := M.2.2.2.2.2.2.2.1 0 (by omega) T.1 k hk
  have b := M.2.2.2.2.2.2.2.1 1 (by omega) T.2 k hk
  rw [if_neg (by omega)] at a b
  exact ⟨a, b⟩
theorem mbs_r {f : Nat → Int} {R C : Nat} {x : Int} (M : MP f R C) (T : TT f) : ∀ k, k ≤ R * C → 0 ≤ mbs f C x k ∧ mbs f C x k < 512 := by
  intro k
  induction k with
  | zero => intro _; exact (show (0 : Int) ≤ 0 ∧ (0 : Int) < 512 by decide)
  | succ k ih =>
    intro hk
    obtain ⟨i1, i2⟩ := ih (by omega)
    obtain ⟨_, n1, n2⟩ := old_r M T (show k < R * C by omega)
    have e : mbs f C x (k + 1) = if f (52 + 96 * 0 + 12 * (k / C) + k % C) = x then bset (mbs f C x k) (f (52 + 96 * 1 + 12 * (k / C) + k % C)) else mbs f C x k := rfl
    rw [e]
    split
    · have b := bs_9 (mbs f C x k).toNat (by omega) (f (52 + 96 * 1 + 12 * (k / C) + k % C)).toNat (by omega)
      rw [Int.toNat_of_nonneg i1, Int.toNat_of_nonneg n1] at b
      exact b
    · exact ⟨i1, i2⟩
theorem sp_60h {s : gx_S} {f : Nat → Int} {R C k : Nat} (m : MR s 1 f R C) (M : MP f R C) (T : TT f) (hk : k < R * C) : gm_60 1 0 k s = some (f (52 + 96 * 0 + 12 * (k / C) + k % C), s) ∧ gm_60 1 1 k s = some (f (52 + 96 * 1 + 12 * (k / C) + k % C), s) := by
  have hRC := RC_96 M.1.2.2.1 M.1.2.2.2
  have m9 := m.2.2.2.2.2.2.2.2
  refine ⟨?_, ?_⟩
  · have c : gm_60 1 0 k s = _ := sp_60 (s := s) (a := 1) (by decide +kernel) 0 k (by omega) (by omega)
    rw [c, m9 0 (by omega) T.1 k hk]
  · have c : gm_60 1 1 k s = _ := sp_60 (s := s) (a := 1) (by decide +kernel) 1 k (by omega) (by omega)
    rw [c, m9 1 (by omega) T.2 k hk]
theorem sl_65 {s : gx_S} {f : Nat → Int} {R C : Nat} {x : Int} (m : MR s 1 f R C) (M : MP f R C) (T : TT f) (hx : i32 x) : ∀ (n k : Nat), R * C < n + k → k ≤ R * C → gm_65_10 n 1 x ((R * C : Nat) : Int) (mbs f C x k) k s = some (mbs f C x (R * C), s) := by
  have hRC := RC_96 M.1.2.2.1 M.1.2.2.2
  unfold i32 at hx
  intro n
  induction n with
  | zero => intro k h; omega
  | succ n ih =>
    intro k h hk
    rw [gm_65_10, if_pos (by omega), if_pos (by omega)]
    by_cases q : k = R * C
    · rw [if_pos (by omega), ← q]
    · obtain ⟨c0, c1⟩ := sp_60h m M T (show k < R * C by omega)
      obtain ⟨⟨o1, o2⟩, n1, n2⟩ := old_r M T (show k < R * C by omega)
      have ce : ((k : Int) + 1) = ((k + 1 : Nat) : Int) := rfl
      have e : mbs f C x (k + 1) = if f (52 + 96 * 0 + 12 * (k / C) + k % C) = x then bset (mbs f C x k) (f (52 + 96 * 1 + 12 * (k / C) + k % C)) else mbs f C x k := rfl
      rw [if_neg (by omega), c0, Option.bind_some, if_pos (by omega), if_pos hx]
      by_cases z : f (52 + 96 * 0 + 12 * (k / C) + k % C) = x
      · rw [if_pos z] at e
        rw [if_neg (fun t => t z)]
        show ((gm_60 1 1 k s).bind _) = _
        rw [c1, Option.bind_some]
        unfold gm_65_39
        show gm_65_10 n 1 x ((R * C : Nat) : Int) (bset (mbs f C x k) (f (52 + 96 * 1 + 12 * (k / C) + k % C))) ((k : Int) + 1) s = _
        rw [← e, ce]
        exact ih (k + 1) (by omega) (by omega)
      · rw [if_neg z] at e
        rw [if_pos z]
        unfold gm_65_39
        rw [← e, ce]
        exact ih (k + 1) (by omega) (by omega)
theorem sp_65 {s : gx_S} {f : Nat → Int} {R C : Nat} {x : Int} (m : MR s 1 f R C) (M : MP f R C) (T : TT f) (hx : i32 x) : gm_65 1 x s = some (mbs f C x (R * C), s) := by
  have hRC := RC_96 M.1.2.2.1 M.1.2.2.2
  unfold gm_65
  rw [if_pos (by decide +kernel), sp_58 (MR_cz m M), Option.bind_some]
  exact sl_65 m M T hx 100000 0 (by omega) (by omega)
theorem sl_221 {s : gx_S} {f : Nat → Int} {R C : Nat} {x : Int} (ef : s.1 216 = f) (M : MP f R C) (T : TT f) (hx : i32 x) : ∀ (n k : Nat), R * C < n + k → k ≤ R * C → gm_221_4 n x (mbs f C x k) k s = some (mbs f C x (R * C), s) := by
  have hRC := RC_96 M.1.2.2.1 M.1.2.2.2
  have hz : mz s R C := by
    unfold mz
    rw [ef]
    exact M.1
  have ec : s.1 216 0 * s.1 216 1 = ((R * C : Nat) : Int) := by rw [hz.1, hz.2.1, Int.natCast_mul]
  unfold i32 at hx
  intro n
  induction n with
  | zero => intro k h; omega
  | succ n ih =>
    intro k h hk
    rw [gm_221_4, sp_151, Option.bind_some, ec, if_pos (by omega), if_pos (by omega)]
    by_cases q : k = R * C
    · rw [if_pos (by omega), ← q]
    · have c0 := sp_152 hz 0 k (by omega) (by omega)
      have c1 := sp_152 hz 1 k (by omega) (by omega)
      have e0 : cdx s C 0 k = f (52 + 96 * 0 + 12 * (k / C) + k % C) := by rw [← ef]; rfl
      have e1 : cdx s C 1 k = f (52 + 96 * 1 + 12 * (k / C) + k % C) := by rw [← ef]; rfl
      rw [e0] at c0
      rw [e1] at c1
      have c0 : gm_152 0 k s = _ := c0
      have c1 : gm_152 1 k s = _ := c1
      obtain ⟨⟨o1, o2⟩, n1, n2⟩ := old_r M T (show k < R * C by omega)
      obtain ⟨b1, b2⟩ := mbs_r (x := x) M T k hk
      have ce : ((k : Int) + 1) = ((k + 1 : Nat) : Int) := rfl
      have e : mbs f C x (k + 1) = if f (52 + 96 * 0 + 12 * (k / C) + k % C) = x then bset (mbs f C x k) (f (52 + 96 * 1 + 12 * (k / C) + k % C)) else mbs f C x k := rfl
      rw [if_neg (by omega)]
      show ((gm_152 0 k s).bind _) = _
      rw [c0, Option.bind_some, if_pos (by omega), if_pos hx]
      by_cases z : f (52 + 96 * 0 + 12 * (k / C) + k % C) = x
      · rw [if_pos z] at e
        rw [if_neg (fun t => t z)]
        show ((gm_152 1 k s).bind _) = _
        rw [c1, Option.bind_some]
        unfold gm_221_35
        show gm_221_4 n x (bset (mbs f C x k) (f (52 + 96 * 1 + 12 * (k / C) + k % C))) ((k : Int) + 1) s = _
        rw [← e, ce]
        exact ih (k + 1) (by omega) (by omega)
      · rw [if_neg z] at e
        rw [if_pos z]
        unfold gm_221_35
        have o := or_0 (mbs f C x k).toNat (by omega)
        rw [Int.toNat_of_nonneg b1] at o
        rw [o, ← e, ce]
        exact ih (k + 1) (by omega) (by omega)
theorem sp_221 {s : gx_S} {f : Nat → Int} {R C : Nat} {x : Int} (ef : s.1 216 = f) (M : MP f R C) (T : TT f) (hx : i32 x) : gm_221 x s = some (mbs f C x (R * C), s) := by
  have hRC := RC_96 M.1.2.2.1 M.1.2.2.2
  exact sl_221 ef M T hx 100000 0 (by omega) (by omega)
