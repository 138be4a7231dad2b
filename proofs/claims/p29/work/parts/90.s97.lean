/-! QUERIES: exact: Euclid's steps, fewer than a hundred -/
def Fb : Nat → Nat → Nat → Bool
  | 0, p, q => p == 1 && q == 1
  | n + 1, p, q => decide (p ≤ q) && Fb n (q - p) p
theorem sl_128f : ∀ (n fu p q a b j : Nat) (s : gx_S), Fb n p q = true → b < a → (b < p ∨ a < q) → j + n < 100 → n < fu → a ≤ 9000000000000000000 → gm_128_9 fu a b j s = some (((Nat.gcd a b : Nat) : Int), s) := by
  intro n
  induction n with
  | zero =>
    intro fu p q a b j s h hb hh hj hf ha
    obtain ⟨fu, rfl⟩ : ∃ m, fu = m + 1 := ⟨fu - 1, by omega⟩
    have h : (p == 1 && q == 1) = true := h
    rw [Bool.and_eq_true, beq_iff_eq, beq_iff_eq] at h
    have b0 : b = 0 := by omega
    subst b0
    rw [gm_128_9, Nat.gcd_zero_right, if_pos (by omega), if_neg (by omega), if_pos (by decide), if_pos (show ((0 : Nat) : Int) = 0 from rfl)]
    rfl
  | succ n ih =>
    intro fu p q a b j s h hb hh hj hf ha
    obtain ⟨fu, rfl⟩ : ∃ m, fu = m + 1 := ⟨fu - 1, by omega⟩
    have h : (decide (p ≤ q) && Fb n (q - p) p) = true := h
    rw [Bool.and_eq_true, decide_eq_true_eq] at h
    rw [gm_128_9, if_pos (by omega), if_neg (by omega), if_pos (by omega)]
    by_cases b0 : b = 0
    · subst b0
      rw [Nat.gcd_zero_right, if_pos (show ((0 : Nat) : Int) = 0 from rfl)]
      rfl
    · have e1 : (a : Int) % (b : Int) = ((a % b : Nat) : Int) := rfl
      have c1 : ((j : Int) + 1) = ((j + 1 : Nat) : Int) := rfl
      have m1 := Nat.mod_lt a (Nat.pos_of_ne_zero b0)
      have g1 : Nat.gcd a b = Nat.gcd b (a % b) := by rw [Nat.gcd_comm a b, Nat.gcd_rec b a, Nat.gcd_comm]
      have ab : b + a % b ≤ a := by
        have d := Nat.div_add_mod a b
        have d1 : 1 ≤ a / b := (Nat.one_le_div_iff (Nat.pos_of_ne_zero b0)).mpr (by omega)
        have d2 := Nat.mul_le_mul_left b d1
        omega
      rw [if_neg (by omega), if_pos (by omega), e1, c1, g1]
      exact ih fu (q - p) p b (a % b) (j + 1) s h.2 m1 (by omega) (by omega) (by omega) (by omega)
theorem sp_128f (s : gx_S) {a b : Nat} (ha : a < b) (hb : b ≤ 20000000000000000) : gm_128 a b s = some (((Nat.gcd a b : Nat) : Int), s) := by
  unfold gm_128
  have e1 : (a : Int) % (b : Int) = (a : Int) := Int.emod_eq_of_lt (by omega) (by omega)
  have i := sl_128f 78 99999 14472334024676221 23416728348467685 b a 1 s (by decide +kernel) ha (.inr (by omega)) (by omega) (by omega) (by omega)
  rw [show (100000 : Nat) = 99999 + 1 from rfl, gm_128_9, if_pos (by decide), if_neg (by decide), if_pos (by omega), if_neg (by omega), if_pos (by omega), e1, Nat.gcd_comm]
  exact i
theorem sp_127f (s : gx_S) {a b : Nat} {w : Int} (ha : a < b) (hb : b ≤ 20000000000000000) (hw : i32 w) : gm_127 a b w s = some ((if ¬ w = 0 then (b : Int) else (a : Int)) / ((Nat.gcd a b : Nat) : Int), s) := by
  unfold i32 at hw
  have b0 : 0 < b := by omega
  have g0 : 0 < Nat.gcd a b := Nat.gcd_pos_of_pos_right a b0
  have g1 : Nat.gcd a b ≤ b := Nat.gcd_le_right a b0
  unfold gm_127
  rw [sp_128f s ha hb, Option.bind_some]
  show (if (-9223372036854775808 ≤ ((Nat.gcd a b : Nat) : Int) ∧ ((Nat.gcd a b : Nat) : Int) ≤ 9223372036854775807) then (if ¬ ((Nat.gcd a b : Nat) : Int) = 0 then (if (-2147483648 ≤ w ∧ w ≤ 2147483647) then (if ¬ w = 0 then gm_127_28 ((Nat.gcd a b : Nat) : Int) b s else gm_127_28 ((Nat.gcd a b : Nat) : Int) a s) else none) else some ((-1), s)) else none) = _
  rw [if_pos (by omega), if_pos (show ¬ ((Nat.gcd a b : Nat) : Int) = 0 by omega), if_pos hw]
  unfold gm_127_28
  by_cases z : ¬ w = 0
  · rw [if_pos z, if_pos z, if_pos (by omega)]
  · rw [if_neg z, if_neg z, if_pos (by omega)]
theorem sp_194f (s : gx_S) {a b : Nat} {w : Int} (ha : a < b) (hb : b ≤ 20000000000000000) (hw : i32 w) : gm_194 a b w s = some ((if ¬ w = 0 then (b : Int) else (a : Int)) / ((Nat.gcd a b : Nat) : Int), s) := by
  unfold i32 at hw
  have b0 : 0 < b := by omega
  have g0 : 0 < Nat.gcd a b := Nat.gcd_pos_of_pos_right a b0
  have g1 : Nat.gcd a b ≤ b := Nat.gcd_le_right a b0
  have c : gm_164 a b s = some (((Nat.gcd a b : Nat) : Int), s) := sl_164 60 100000 a b s (by omega) (by omega) (by omega) (by omega)
  unfold gm_194
  rw [c, Option.bind_some, if_pos hw]
  by_cases z : ¬ w = 0
  · rw [if_pos z, if_pos z, if_pos (by omega)]
  · rw [if_neg z, if_neg z, if_pos (by omega)]
theorem cm_c {v w : Nat → Int} : ∀ {n : Nat}, (∀ k, k < n → v k = w k) → cm v n = cm w n
  | 0, _ => rfl
  | n + 1, h => by
    show (if v n ≤ 0 then cm v n else Nat.lcm (cm v n) (v n).toNat) = (if w n ≤ 0 then cm w n else Nat.lcm (cm w n) (w n).toNat)
    rw [h n (by omega), cm_c (n := n) fun k hk => h k (by omega)]
theorem sl_77 {t c : Nat} {s : gx_S} (hc : c < 9) : ∀ (n j : Nat), 8 < n + j → j ≤ 8 → gm_77_4 n t c (sg (fun r => s.1 (t + 6) (9 * r + c)) j) j s = some (sg (fun r => s.1 (t + 6) (9 * r + c)) 8, s) := by
  intro n
  induction n with
  | zero => intro j h; omega
  | succ n ih =>
    intro j h hj
    rw [gm_77_4, if_pos (by omega)]
    by_cases q : j = 8
    · rw [if_pos (by omega), q]
    · have ce : ((j : Int) + 1) = ((j + 1 : Nat) : Int) := rfl
      rw [if_neg (by omega), if_pos (by omega), show (((j : Int) * 9) + (c : Int)).toNat = 9 * j + c by omega, ce]
      exact ih (j + 1) (by omega) (by omega)
theorem sp_77 {t c : Nat} {s : gx_S} (ht : fx_oc t 7 = true) (hc : c < 9) : gm_77 t c s = some (sg (fun r => s.1 (t + 6) (9 * r + c)) 8, s) := by
  unfold gm_77
  rw [if_pos ht]
  exact sl_77 hc 100000 0 (by omega) (by omega)
