/-! THE REFERENCE's BALANCED TABLE: a column's least and most -/
theorem sl_164 : ∀ (k n a b : Nat) (s : gx_S), b < 2 ^ k → 2 * k + 1 < n → a ≤ 9000000000000000000 → b ≤ 9000000000000000000 → gm_164_6 n a b s = some (((Nat.gcd a b : Nat) : Int), s) := by
  intro k
  induction k with
  | zero =>
    intro n a b s hb hn ha hb9
    have : b = 0 := by
      have : (2 : Nat) ^ 0 = 1 := rfl
      omega
    subst this
    obtain ⟨n, rfl⟩ : ∃ m, n = m + 1 := ⟨n - 1, by omega⟩
    rw [gm_164_6, Nat.gcd_zero_right]
    simp (disch := omega) only [if_pos, if_neg]
  | succ k ih =>
    intro n a b s hb hn ha hb9
    obtain ⟨n, rfl⟩ : ∃ m, n = m + 2 := ⟨n - 2, by omega⟩
    rw [gm_164_6]
    by_cases b0 : b = 0
    · subst b0
      rw [Nat.gcd_zero_right]
      simp (disch := omega) only [if_pos, if_neg]
    · have e1 : (a : Int) % (b : Int) = ((a % b : Nat) : Int) := rfl
      have m1 := Nat.mod_lt a (Nat.pos_of_ne_zero b0)
      have g1 : Nat.gcd a b = Nat.gcd b (a % b) := by rw [Nat.gcd_comm a b, Nat.gcd_rec b a, Nat.gcd_comm]
      rw [e1, g1]
      simp (disch := omega) only [if_pos, if_neg]
      generalize a % b = c at *
      rw [gm_164_6]
      by_cases c0 : c = 0
      · subst c0
        rw [Nat.gcd_zero_right]
        simp (disch := omega) only [if_pos, if_neg]
      · have e2 : (b : Int) % (c : Int) = ((b % c : Nat) : Int) := rfl
        have m2 := Nat.mod_lt b (Nat.pos_of_ne_zero c0)
        have g2 : Nat.gcd b c = Nat.gcd c (b % c) := by rw [Nat.gcd_comm b c, Nat.gcd_rec c b, Nat.gcd_comm]
        have h := mod_half (Nat.pos_of_ne_zero c0) m1 hb
        rw [e2, g2]
        simp (disch := omega) only [if_pos, if_neg]
        exact ih n c (b % c) s h (by omega) (by omega) (by omega)
theorem sp_164 (s : gx_S) {a b : Nat} (ha : a ≤ 9000000000000000000) (hb : b < 1099511627776) : gm_164 a b s = some (((Nat.gcd a b : Nat) : Int), s) := sl_164 40 100000 a b s (by omega) (by omega) ha (by omega)
/-- a fraction is added: numerator 215 29, denominator 215 30 -/
theorem sp_165 {s : gx_S} {x : Int} {d t : Nat} (h : s.2 215 30 = d) (hd : 0 < d) (ht : 0 < t) (ht' : t ≤ 1000000) (hL : Nat.lcm d t ≤ 20000000000000000) : gm_165 x t s = some (gw2 (gw2 s 215 29 (s.2 215 29 * (((Nat.lcm d t : Nat) : Int) / (d : Int)) + x * (((Nat.lcm d t : Nat) : Int) / (t : Int)))) 215 30 ((Nat.lcm d t : Nat) : Int)) := by
  have l0 := Nat.lcm_pos hd ht
  have d1 := Nat.le_of_dvd l0 (Nat.dvd_lcm_left d t)
  have g0 : 0 < Nat.gcd d t := Nat.gcd_pos_of_pos_right _ ht
  have g1 : Nat.gcd d t ≤ t := Nat.gcd_le_right _ ht
  have e : (d : Int) / ((Nat.gcd d t : Nat) : Int) * (t : Int) = ((Nat.lcm d t : Nat) : Int) := by
    rw [lcm_div d t hd]
    rfl
  unfold gm_165
  rw [h, sp_164 s (by omega) (by omega), Option.bind_some]
  simp only [h, e]
  generalize Nat.lcm d t = L at *
  generalize Nat.gcd d t = g at *
  rw [if_pos (by omega), if_pos (by omega), if_pos (by omega)]
/-- a row's share of a column over the common denominator -/
def rr (s : gx_S) (c : Nat) (K : Int) (r : Nat) : Int := if s.2 225 (9 * r + c) ≤ 0 then 0 else s.2 225 (9 * r + c) * (K / s.1 223 r)
theorem rr_o {s u : gx_S} (h1 : u.1 = s.1) (h2 : ∀ j, u.2 225 j = s.2 225 j) (c : Nat) (K : Int) : rr u c K = rr s c K := by
  funext r
  unfold rr
  rw [h1, h2]
theorem add_fr {num S x : Int} {d t K : Nat} (hd : 0 < d) (ht : 0 < t) (hdK : d ∣ K) (htK : t ∣ K) (e : num * (K : Int) = (d : Int) * S) : Nat.lcm d t ∣ K ∧ (num * (((Nat.lcm d t : Nat) : Int) / (d : Int)) + x * (((Nat.lcm d t : Nat) : Int) / (t : Int))) * (K : Int) = ((Nat.lcm d t : Nat) : Int) * (S + x * ((K : Int) / (t : Int))) := by
  refine ⟨Nat.lcm_dvd hdK htK, ?_⟩
  obtain ⟨p, hp⟩ := Nat.dvd_lcm_left d t
  obtain ⟨q, hq⟩ := Nat.dvd_lcm_right d t
  obtain ⟨k, hk⟩ := htK
  have e1 : ((Nat.lcm d t : Nat) : Int) / (d : Int) = p := by
    rw [hp]
    show (((d * p) / d : Nat) : Int) = p
    rw [Nat.mul_div_cancel_left _ hd]
  have e2 : ((Nat.lcm d t : Nat) : Int) / (t : Int) = q := by
    rw [hq]
    show (((t * q) / t : Nat) : Int) = q
    rw [Nat.mul_div_cancel_left _ ht]
  have e3 : (K : Int) / (t : Int) = k := by
    rw [hk]
    show (((t * k) / t : Nat) : Int) = k
    rw [Nat.mul_div_cancel_left _ ht]
  have a1 : ((Nat.lcm d t : Nat) : Int) = d * p := by rw [hp]; exact Int.natCast_mul d p
  have a2 : ((Nat.lcm d t : Nat) : Int) = t * q := by rw [hq]; exact Int.natCast_mul t q
  have a3 : (K : Int) = t * k := by rw [hk]; exact Int.natCast_mul t k
  rw [e1, e2, e3]
  calc (num * (p : Int) + x * (q : Int)) * (K : Int) = num * (K : Int) * p + x * (q * K) := by rw [Int.add_mul, Int.mul_right_comm, Int.mul_assoc x]
    _ = (d : Int) * S * p + x * (q * (t * k)) := by rw [e, ← a3]
    _ = (d : Int) * p * S + (t * q : Int) * (x * k) := by
      rw [Int.mul_right_comm (d : Int) S p]
      congr 1
      rw [← Int.mul_assoc (q : Int), Int.mul_comm (q : Int) t, ← Int.mul_assoc x, Int.mul_comm x, Int.mul_assoc]
    _ = ((Nat.lcm d t : Nat) : Int) * (S + x * k) := by rw [← a1, ← a2, Int.mul_add]
theorem fr_div {num S : Int} {d K : Nat} (hd : 0 < d) (hK : 0 < K) (e : num * (K : Int) = (d : Int) * S) : num / (d : Int) = S / (K : Int) ∧ (num % (d : Int) = 0 ↔ S % (K : Int) = 0) := by
  have d0 : (0 : Int) < d := by omega
  have K0 : (0 : Int) < K := by omega
  have e' : num * (K : Int) = S * (d : Int) := by rw [e, Int.mul_comm]
  have a : num / (d : Int) = S / (K : Int) := by
    have a1 := Int.mul_ediv_mul_of_pos_left num (d : Int) K0
    have a2 := Int.mul_ediv_mul_of_pos_left S (K : Int) d0
    rw [← a1, ← a2, e', Int.mul_comm (d : Int) (K : Int)]
  refine ⟨a, ?_⟩
  have m1 := Int.mul_emod_mul_of_pos num (d : Int) K0
  have m2 := Int.mul_emod_mul_of_pos S (K : Int) d0
  have m3 : (K : Int) * (num % (d : Int)) = (d : Int) * (S % (K : Int)) := by
    rw [← m1, ← m2, Int.mul_comm (K : Int) num, e', Int.mul_comm S (d : Int), Int.mul_comm (K : Int) (d : Int)]
  constructor
  · intro h
    rw [h, Int.mul_zero] at m3
    rcases Int.mul_eq_zero.mp m3.symm with x | x
    · omega
    · exact x
  · intro h
    rw [h, Int.mul_zero] at m3
    rcases Int.mul_eq_zero.mp m3 with x | x
    · omega
    · exact x
