/-! gcd and common of the CLASS -/
theorem mod_half {b c k : Nat} (h1 : 0 < c) (h2 : c < b) (h3 : b < 2 ^ (k + 1)) : b % c < 2 ^ k := by
  have a := Nat.div_add_mod b c
  have d : 1 ≤ b / c := (Nat.one_le_div_iff h1).mpr (Nat.le_of_lt h2)
  have e : c * 1 ≤ c * (b / c) := Nat.mul_le_mul_left c d
  have f := Nat.mod_lt b h1
  have g : 2 ^ (k + 1) = 2 * 2 ^ k := by rw [Nat.pow_succ]; omega
  generalize b % c = m at *
  generalize c * (b / c) = x at *
  omega
theorem sl_128 : ∀ (k n a b x : Nat) (s : gx_S), b < 2 ^ k → 2 * k + 1 < n → x + 2 * k + 1 ≤ 100 → a ≤ 9000000000000000000 → b ≤ 9000000000000000000 → gm_128_9 n a b x s = some (((Nat.gcd a b : Nat) : Int), s) := by
  intro k
  induction k with
  | zero =>
    intro n a b x s hb hn hx ha hb9
    have : b = 0 := by
      have : (2 : Nat) ^ 0 = 1 := rfl
      omega
    subst this
    obtain ⟨n, rfl⟩ : ∃ m, n = m + 1 := ⟨n - 1, by omega⟩
    rw [gm_128_9, Nat.gcd_zero_right]
    simp (disch := omega) only [if_pos, if_neg, gm_128_44]
  | succ k ih =>
    intro n a b x s hb hn hx ha hb9
    obtain ⟨n, rfl⟩ : ∃ m, n = m + 2 := ⟨n - 2, by omega⟩
    rw [gm_128_9]
    by_cases b0 : b = 0
    · subst b0
      rw [Nat.gcd_zero_right]
      simp (disch := omega) only [if_pos, if_neg, gm_128_44]
    · have e1 : (a : Int) % (b : Int) = ((a % b : Nat) : Int) := rfl
      have i1 : ((x : Int) + 1) = ((x + 1 : Nat) : Int) := by omega
      have m1 := Nat.mod_lt a (Nat.pos_of_ne_zero b0)
      have g1 : Nat.gcd a b = Nat.gcd b (a % b) := by rw [Nat.gcd_comm a b, Nat.gcd_rec b a, Nat.gcd_comm]
      rw [e1, g1, i1]
      simp (disch := omega) only [if_pos, if_neg]
      generalize a % b = c at *
      rw [gm_128_9]
      by_cases c0 : c = 0
      · subst c0
        rw [Nat.gcd_zero_right]
        simp (disch := omega) only [if_pos, if_neg, gm_128_44]
      · have e2 : (b : Int) % (c : Int) = ((b % c : Nat) : Int) := rfl
        have i2 : (((x + 1 : Nat) : Int) + 1) = ((x + 2 : Nat) : Int) := by omega
        have m2 := Nat.mod_lt b (Nat.pos_of_ne_zero c0)
        have g2 : Nat.gcd b c = Nat.gcd c (b % c) := by rw [Nat.gcd_comm b c, Nat.gcd_rec c b, Nat.gcd_comm]
        have h := mod_half (Nat.pos_of_ne_zero c0) m1 hb
        rw [e2, g2, i2]
        simp (disch := omega) only [if_pos, if_neg]
        exact ih n c (b % c) (x + 2) s h (by omega) (by omega) (by omega) (by omega)
theorem sp_128 (s : gx_S) {a b : Nat} (ha : a ≤ 9000000000000000000) (hb : b < 1099511627776) : gm_128 a b s = some (((Nat.gcd a b : Nat) : Int), s) := sl_128 40 100000 a b 0 s (by omega) (by omega) (by omega) ha (by omega)
/-- the least common multiple of the first n totals that aren't 0 -/
def cm (v : Nat → Int) : Nat → Nat
  | 0 => 1
  | n + 1 => if v n ≤ 0 then cm v n else Nat.lcm (cm v n) (v n).toNat
theorem cm_pos (v : Nat → Int) : ∀ n, 0 < cm v n
  | 0 => Nat.zero_lt_one
  | n + 1 => by
    show 0 < if v n ≤ 0 then cm v n else Nat.lcm (cm v n) (v n).toNat
    by_cases h : v n ≤ 0
    · rw [if_pos h]; exact cm_pos v n
    · rw [if_neg h]
      exact Nat.lcm_pos (cm_pos v n) (by omega)
/-- the same, multiplied -/
def pr (v : Nat → Int) : Nat → Nat
  | 0 => 1
  | n + 1 => pr v n * if v n ≤ 0 then 1 else (v n).toNat
theorem cm_le (v : Nat → Int) : ∀ n, cm v n ≤ pr v n
  | 0 => Nat.le_refl 1
  | n + 1 => by
    show (if v n ≤ 0 then cm v n else Nat.lcm (cm v n) (v n).toNat) ≤ pr v n * if v n ≤ 0 then 1 else (v n).toNat
    have ih := cm_le v n
    by_cases q : v n ≤ 0
    · rw [if_pos q, if_pos q, Nat.mul_one]
      exact ih
    · rw [if_neg q, if_neg q]
      exact Nat.le_trans (Nat.div_le_self _ _) (Nat.mul_le_mul_right _ ih)
theorem am2 (a b : Nat) : 4 * (a * b) ≤ (a + b) ^ 2 := by
  rcases Nat.le_total a b with h | h
  · obtain ⟨d, rfl⟩ := Nat.le.dest h
    simp only [Nat.pow_two, Nat.mul_add, Nat.add_mul, Nat.mul_comm d a]
    omega
  · obtain ⟨d, rfl⟩ := Nat.le.dest h
    simp only [Nat.pow_two, Nat.mul_add, Nat.add_mul, Nat.mul_comm d b]
    omega
theorem am_up {k m p q s t : Nat} (hp : m * p ≤ s ^ k) (hq : m * q ≤ t ^ k) : 4 ^ k * (m * m * (p * q)) ≤ (s + t) ^ (2 * k) := by
  have a := Nat.mul_le_mul hp hq
  have b := Nat.pow_le_pow_left (am2 s t) k
  rw [Nat.mul_pow, Nat.mul_pow, ← Nat.pow_mul] at b
  calc 4 ^ k * (m * m * (p * q)) = 4 ^ k * ((m * p) * (m * q)) := by rw [Nat.mul_mul_mul_comm]
    _ ≤ 4 ^ k * (s ^ k * t ^ k) := Nat.mul_le_mul_left _ a
    _ ≤ (s + t) ^ (2 * k) := b
theorem am8 (a b c d e f g h : Nat) (hs : a + b + c + d + e + f + g + h ≤ 872) : a * b * c * d * e * f * g * h ≤ 20000000000000000 := by
  have y1 := am_up (k := 2) (m := 4) (p := a * b) (q := c * d) (s := a + b) (t := c + d) (am2 a b) (am2 c d)
  have y2 := am_up (k := 2) (m := 4) (p := e * f) (q := g * h) (s := e + f) (t := g + h) (am2 e f) (am2 g h)
  rw [show (4 : Nat) ^ 2 = 16 from rfl, show 2 * 2 = 4 from rfl] at y1 y2
  have z := am_up (k := 4) (m := 256) (p := a * b * (c * d)) (q := e * f * (g * h)) (s := a + b + (c + d)) (t := e + f + (g + h)) (by omega) (by omega)
  have w := Nat.pow_le_pow_left (show a + b + (c + d) + (e + f + (g + h)) ≤ 872 by omega) (2 * 4)
  have n1 : (872 : Nat) ^ (2 * 4) = 334296538331669579431936 := by decide
  have n2 : (4 : Nat) ^ 4 = 256 := by decide
  have e1 : a * b * c * d * e * f * g * h = a * b * (c * d) * (e * f * (g * h)) := by
    simp only [Nat.mul_assoc]
  rw [n1] at w
  rw [n2] at z
  rw [e1]
  generalize a * b * (c * d) * (e * f * (g * h)) = X at *
  omega
theorem cm_dvd {v : Nat → Int} : ∀ {n k : Nat}, k < n → 0 < v k → (v k).toNat ∣ cm v n
  | n + 1, k, hk, hv => by
    show (v k).toNat ∣ if v n ≤ 0 then cm v n else Nat.lcm (cm v n) (v n).toNat
    by_cases e : k = n
    · subst e
      rw [if_neg (by omega)]
      exact Nat.dvd_lcm_right _ _
    · by_cases q : v n ≤ 0
      · rw [if_pos q]
        exact cm_dvd (by omega) hv
      · rw [if_neg q]
        exact Nat.dvd_trans (cm_dvd (by omega) hv) (Nat.dvd_lcm_left _ _)
theorem lcm_div (a b : Nat) (h : 0 < a) : Nat.lcm a b = a / Nat.gcd a b * b := by
  unfold Nat.lcm
  rw [Nat.mul_comm a b, Nat.mul_div_assoc _ (Nat.gcd_dvd_left a b), Nat.mul_comm]
