section
/-! THE CLASS's BALANCED TABLE: round's loops -/
theorem oc7_14 {t : Nat} (ht : fx_oc t 7 = true) : 14 ≤ t := by
  have h : ∀ k, k < 14 → fx_oc k 7 = false := by decide
  rcases Nat.lt_or_ge t 14 with a | a
  · rw [h t a] at ht
    exact absurd ht (by decide)
  · exact a
theorem sp_73 {s : gx_S} {t r : Nat} (ht : fx_oc t 7 = true) (hr : r < 8) (h2 : i32 (s.1 (t + 2) r)) : gm_73 t r s = some (if s.1 (t + 2) r ≤ 0 then 0 else s.1 (t + 1) r - sg (fun c => s.1 (t + 6) (9 * r + c)) 9, s) := by
  unfold i32 at h2
  unfold gm_73
  rw [show ((r : Int)).toNat = r by omega, if_pos ht]
  by_cases h : s.1 (t + 2) r ≤ 0
  · simp (disch := omega) only [if_pos]
  · rw [sp_72 (ga_7_5 ht) hr]
    simp (disch := omega) only [if_pos, if_neg, Option.bind_some]
/-- all but the rounder's cells and the table's given stay -/
def scg (t : Nat) (s u : gx_S) : Prop := u.2 = s.2 ∧ ∀ k j, (k < 7 ∨ 13 < k) → ¬ (k = 6 ∧ j = 7) → ¬ k = t + 8 → u.1 k j = s.1 k j
theorem scg_rf (t : Nat) (s : gx_S) : scg t s s := ⟨rfl, fun _ _ _ _ _ => rfl⟩
theorem scg_tr {t : Nat} {s u v : gx_S} (a : scg t s u) (b : scg t u v) : scg t s v := ⟨b.1.trans a.1, fun k j h1 h2 h3 => (b.2 k j h1 h2 h3).trans (a.2 k j h1 h2 h3)⟩
theorem scr_scg (t : Nat) {s u : gx_S} (a : scr s u) : scg t s u := ⟨a.1, fun k j h1 h2 _ => a.2 k j (by omega) (by omega) (by omega) (by omega) h2⟩
theorem sc7_scg (t : Nat) {s u : gx_S} (a : sc7 s u) : scg t s u := ⟨a.1, fun k j h1 h2 _ => a.2 k j (by omega) (by omega) (by omega) (by omega) (by omega) h2⟩
theorem FX_same {L O F0 W : Nat → Int} {s u : gx_S} {e : Nat} (h : ∀ k j, 7 ≤ k → k ≤ 11 → u.1 k j = s.1 k j) (X : FX L O F0 W s e) : FX L O F0 W u e := by
  have z7 : ∀ j, u.1 7 j = s.1 7 j := fun j => h 7 j (by omega) (by omega)
  have z8 : ∀ j, u.1 8 j = s.1 8 j := fun j => h 8 j (by omega) (by omega)
  have z9 : ∀ j, u.1 9 j = s.1 9 j := fun j => h 9 j (by omega) (by omega)
  have z10 : ∀ j, u.1 10 j = s.1 10 j := fun j => h 10 j (by omega) (by omega)
  have z11 : ∀ j, u.1 11 j = s.1 11 j := fun j => h 11 j (by omega) (by omega)
  have zp : ∀ v, ph u v = ph s v := fun v => ph_eq z8 z11 v
  unfold FX FL at *
  simp only [z7, z8, z9, z10, z11, zp]
  exact X
theorem sl_63 {L O F0 W : Nat → Int} {t : Nat} (ht : fx_oc t 7 = true) : ∀ (n e : Nat) (s : gx_S), FX L O F0 W s e → e ≤ 72 → 72 < n + e → ∃ u : gx_S, gm_41_63 n t e s = some u ∧ FX L O F0 W u 72 ∧ scg t s u ∧ (∀ j, e ≤ j → j < 72 → u.1 (t + 8) j = s.1 (t + 6) j + u.1 8 j) ∧ (∀ j, j < e ∨ 72 ≤ j → u.1 (t + 8) j = s.1 (t + 8) j) ∧ ∀ j, j < e → u.1 8 j = s.1 8 j := by
  have t14 := oc7_14 ht
  intro n
  induction n with
  | zero => intro e s X he hn; omega
  | succ n ih =>
    intro e s X he hn
    by_cases q : e = 72
    · subst q
      refine ⟨s, ?_, X, scg_rf t s, fun j h1 h2 => by omega, fun _ _ => rfl, fun _ _ => rfl⟩
      rw [gm_41_63]
      simp (disch := omega) only [if_pos]
    · have i5 : ((e : Int)).toNat = e := by omega
      have i3 : ((e : Int) + 1) = ((e + 1 : Nat) : Int) := by omega
      have f01 := (X.1.1 e (by omega)).1
      obtain ⟨v, v1, v2, v3, v4⟩ : ∃ v : gx_S, (if ¬ s.1 7 e = 1 then some s else gm_45 e s) = some v ∧ FX L O F0 W v (e + 1) ∧ sc7 s v ∧ ∀ i, i < e → v.1 8 i = s.1 8 i := by
        by_cases h : s.1 7 e = 1
        · obtain ⟨v, v1, v2, v3, v4⟩ := sp_45 X (by omega) h
          exact ⟨v, by rw [if_neg (fun x => x h)]; exact v1, v2, v3, v4⟩
        · exact ⟨s, if_pos h, FX_skip X (by omega) (by omega), sc7_rf s, fun _ _ => rfl⟩
      have g : ∀ k j, k ≠ t + 8 → (gw1 v (t + 8) e (v.1 (t + 6) e + v.1 8 e)).1 k j = v.1 k j := fun k j h => by rw [gw1_1, if_neg (fun x => h x.1)]
      have g8 : ∀ j, j ≠ e → (gw1 v (t + 8) e (v.1 (t + 6) e + v.1 8 e)).1 (t + 8) j = v.1 (t + 8) j := fun j h => by rw [gw1_1, if_neg (fun x => h x.2)]
      have ge : (gw1 v (t + 8) e (v.1 (t + 6) e + v.1 8 e)).1 (t + 8) e = v.1 (t + 6) e + v.1 8 e := by rw [gw1_1, if_pos ⟨rfl, rfl⟩]
      have y6 : ∀ j, v.1 (t + 6) j = s.1 (t + 6) j := fun j => v3.2 _ j (by omega) (by omega) (by omega) (by omega) (by omega) (by omega)
      have y8 : ∀ j, v.1 (t + 8) j = s.1 (t + 8) j := fun j => v3.2 _ j (by omega) (by omega) (by omega) (by omega) (by omega) (by omega)
      have og : scg t v (gw1 v (t + 8) e (v.1 (t + 6) e + v.1 8 e)) := ⟨rfl, fun k j _ _ h => g k j h⟩
      obtain ⟨u, u1, u2, u3, u4, u5, u6⟩ := ih (e + 1) (gw1 v (t + 8) e (v.1 (t + 6) e + v.1 8 e)) (FX_same (fun k j h1 h2 => g k j (by omega)) v2) (by omega) (by omega)
      refine ⟨u, ?_, u2, scg_tr (sc7_scg t v3) (scg_tr og u3), fun j h1 h2 => ?_, fun j h => ?_, fun j h => ?_⟩
      · rw [gm_41_63, i5]
        by_cases h : s.1 7 e = 1
        · rw [if_neg (fun x => x h)] at v1
          simp (disch := omega) only [if_pos, if_neg, Option.bind_some, v1, gm_41_84, i5, i3]
          exact u1
        · rw [if_pos h] at v1
          have v1 := Option.some.inj v1
          subst v1
          simp (disch := omega) only [if_pos, if_neg, gm_41_84, i5, i3]
          exact u1
      · by_cases ej : j = e
        · rw [ej, u5 e (by omega), ge, u6 e (by omega), g 8 e (by omega), y6]
        · rw [u4 j (by omega) h2, g (t + 6) j (by omega), y6]
      · rw [u5 j (by omega), g8 j (by omega), y8]
      · rw [u6 j (by omega), g 8 j (by omega), v4 j h]
theorem sl_41c {t : Nat} {W : Nat → Int} (ht : fx_oc t 7 = true) : ∀ (n c : Nat) (s : gx_S), FL s → MF s → CB s W → (∀ r, r < 8 → ph s r = W r) → (∀ k, k < 9 → s.1 9 k ≤ 8) → (∀ k, k < 9 → k < c → s.1 9 k ≤ s.1 11 k) → c ≤ 9 → 9 < n + c → ∃ u : gx_S, gm_41_44 n t c s = some u ∧ FX (s.1 9) (s.1 10) (s.1 7) W u 72 ∧ scg t s u ∧ (∀ j, j < 72 → u.1 (t + 8) j = s.1 (t + 6) j + u.1 8 j) ∧ ∀ j, 72 ≤ j → u.1 (t + 8) j = s.1 (t + 8) j := by
  have t14 := oc7_14 ht
  intro n
  induction n with
  | zero => intro c s F M hB hW h8 hd hc hn; omega
  | succ n ih =>
    intro c s F M hB hW h8 hd hc hn
    by_cases q : c = 9
    · subst q
      have X : FX (s.1 9) (s.1 10) (s.1 7) W s 0 := ⟨F, fun c h => ⟨rfl, rfl, hd c h h⟩, hW, M, fun _ _ _ => rfl, fun _ _ h => by omega, fun _ _ _ _ h => by omega⟩
      obtain ⟨u, u1, u2, u3, u4, u5, u6⟩ := sl_63 ht 100000 0 s X (by omega) (by omega)
      refine ⟨u, ?_, u2, u3, fun j h => u4 j (by omega) h, fun j h => u5 j (.inr h)⟩
      rw [gm_41_44]
      simp (disch := omega) only [if_pos]
      exact u1
    · obtain ⟨v, v1, v2, v3, v4, v5, v6, v7⟩ := sp_44 F M hB hW (col := c) (by omega) (h8 c (by omega))
      have z9 : v.1 9 = s.1 9 := funext fun k => v4.2 9 k (by omega) (by omega) (by omega) (by omega) (by omega)
      have z10 : v.1 10 = s.1 10 := funext fun k => v4.2 10 k (by omega) (by omega) (by omega) (by omega) (by omega)
      have z7 : v.1 7 = s.1 7 := funext fun k => v4.2 7 k (by omega) (by omega) (by omega) (by omega) (by omega)
      obtain ⟨u, u1, u2, u3, u4, u5⟩ := ih (c + 1) v v2 v3 (CB_scr v4 hB) v5 (fun k h => by rw [z9]; exact h8 k h) (fun k h h' => by
        rw [z9]
        by_cases e : k = c
        · rw [e]; exact v6
        · exact v7 k h (hd k h (by omega))) (by omega) (by omega)
      rw [z9, z10, z7] at u2
      refine ⟨u, ?_, u2, scg_tr (scr_scg t v4) u3, fun j h => by rw [u4 j h, v4.2 (t + 6) j (by omega) (by omega) (by omega) (by omega) (by omega)], fun j h => by rw [u5 j h, v4.2 (t + 8) j (by omega) (by omega) (by omega) (by omega) (by omega)]⟩
      have i3 : ((c : Int) + 1) = ((c + 1 : Nat) : Int) := by omega
      rw [gm_41_44, v1]
      simp (disch := omega) only [if_pos, if_neg, Option.bind_some, i3]
      exact u1
/-- the rows' numbers: those left over -/
def lo (s : gx_S) (t r : Nat) : Int := if s.1 (t + 2) r ≤ 0 then 0 else s.1 (t + 1) r - sg (fun c => s.1 (t + 6) (9 * r + c)) 9
theorem lo_scr {s u : gx_S} {t : Nat} (h14 : 14 ≤ t) (o : scr s u) (r : Nat) : lo u t r = lo s t r := by
  unfold lo
  have z : ∀ k j, 14 ≤ k → u.1 k j = s.1 k j := fun k j h => o.2 k j (by omega) (by omega) (by omega) (by omega) (by omega)
  simp only [z (t + 2) _ (by omega), z (t + 1) _ (by omega), z (t + 6) _ (by omega)]
theorem sl_41r {t : Nat} (ht : fx_oc t 7 = true) : ∀ (n r : Nat) (s : gx_S), FL s → MF s → CA s (lo s t) → CB s (lo s t) → (∀ k, k < 8 → i32 (s.1 (t + 2) k)) → (∀ k, k < 8 → 0 ≤ lo s t k ∧ lo s t k ≤ 9) → (∀ k, k < 8 → ph s k = if k < r then lo s t k else 0) → (∀ k, k < 9 → s.1 9 k ≤ 8) → r ≤ 8 → 8 < n + r → ∃ u : gx_S, gm_41_20 n t r s = some u ∧ FX (s.1 9) (s.1 10) (s.1 7) (lo s t) u 72 ∧ scg t s u ∧ (∀ j, j < 72 → u.1 (t + 8) j = s.1 (t + 6) j + u.1 8 j) ∧ ∀ j, 72 ≤ j → u.1 (t + 8) j = s.1 (t + 8) j := by
  have t14 := oc7_14 ht
  intro n
  induction n with
  | zero => intro r s F M hA hB h2 hl hp h8 hr hn; omega
  | succ n ih =>
    intro r s F M hA hB h2 hl hp h8 hr hn
    by_cases q : r = 8
    · subst q
      obtain ⟨u, u1, u2, u3, u4, u5⟩ := sl_41c ht 100000 0 s F M hB (fun k h => by rw [hp k h, if_pos h]) h8 (fun _ _ h => by omega) (by omega) (by omega)
      refine ⟨u, ?_, u2, u3, u4, u5⟩
      rw [gm_41_20]
      simp (disch := omega) only [if_pos]
      exact u1
    · have hlr := hl r (by omega)
      obtain ⟨w, hw⟩ : ∃ w : Nat, lo s t r = w := ⟨(lo s t r).toNat, by omega⟩
      obtain ⟨v, v1, v2, v3, v4, v5, v6⟩ := sp_43 (w := w) F M hA (fun k h => by
        rw [hp k h]
        have := hl k h
        split <;> omega) (row := r) (by omega) hw (by omega) (by rw [hp r (by omega), if_neg (by omega)])
      have zl : lo v t = lo s t := funext fun k => lo_scr t14 v4 k
      have z : ∀ k j, 14 ≤ k → v.1 k j = s.1 k j := fun k j h => v4.2 k j (by omega) (by omega) (by omega) (by omega) (by omega)
      have z9 : v.1 9 = s.1 9 := funext fun k => v4.2 9 k (by omega) (by omega) (by omega) (by omega) (by omega)
      have z10 : v.1 10 = s.1 10 := funext fun k => v4.2 10 k (by omega) (by omega) (by omega) (by omega) (by omega)
      have z7 : v.1 7 = s.1 7 := funext fun k => v4.2 7 k (by omega) (by omega) (by omega) (by omega) (by omega)
      obtain ⟨u, u1, u2, u3, u4, u5⟩ := ih (r + 1) v v2 v3 (by rw [zl]; exact CA_scr v4 hA) (by rw [zl]; exact CB_scr v4 hB) (fun k h => by rw [z _ _ (by omega)]; exact h2 k h) (fun k h => by rw [zl]; exact hl k h) (fun k h => by
        rw [zl]
        by_cases e : k = r
        · rw [e, if_pos (by omega), v5, hw]
        · rw [v6 k h e, hp k h]
          by_cases e2 : k < r
          · rw [if_pos e2, if_pos (by omega)]
          · rw [if_neg e2, if_neg (by omega)]) (fun k h => by rw [z9]; exact h8 k h) (by omega) (by omega)
      rw [z9, z10, z7, zl] at u2
      refine ⟨u, ?_, u2, scg_tr (scr_scg t v4) u3, fun j h => by rw [u4 j h, z _ _ (by omega)], fun j h => by rw [u5 j h, z _ _ (by omega)]⟩
      have i3 : ((r : Int) + 1) = ((r + 1 : Nat) : Int) := by omega
      have e73 : gm_73 t r s = some ((w : Int), s) := by rw [sp_73 ht (by omega) (h2 r (by omega)), ← hw]; rfl
      rw [gm_41_20, e73]
      simp (disch := omega) only [if_pos, if_neg, Option.bind_some]
      rw [v1]
      simp only [Option.bind_some, i3]
      exact u1
end
section
/-! gcd and common of the CLASS -/
theorem mod_half {b c k : Nat} (h1 : 0 < c) (h2 : c < b) (h3 : b < 2 ^ (k + 1)) : b % c < 2 ^ k := by
  have a := Nat.div_add_mod b c
  have d : 1 ≤ b / c := (Nat.one_le_div_iff h1).mpr (Nat.le_of_lt h2)
  have e : c * 1 ≤ c * (b / c) := Nat.mul_le_mul_left c d
  have f := Nat.mod_lt b h1
  have g : 2 ^ (k + 1) = 2 * 2 ^ k := by rw [Nat.pow_succ]; omega
  generalize b % c = m at *
  generalize c * (b / c) = x at *
  omega
theorem sl_128 : ∀ (k n a b x : Nat) (s : gx_S), b < 2 ^ k → 2 * k + 1 < n → x + 2 * k + 1 ≤ 100 → a ≤ 9000000000000000000 → b ≤ 9000000000000000000 → gm_128_9 n a b x s = some (((Nat.gcd a b : Nat) : Int), s) := by
  intro k
  induction k with
  | zero =>
    intro n a b x s hb hn hx ha hb9
    have : b = 0 := by
      have : (2 : Nat) ^ 0 = 1 := rfl
      omega
    subst this
    obtain ⟨n, rfl⟩ : ∃ m, n = m + 1 := ⟨n - 1, by omega⟩
    rw [gm_128_9, Nat.gcd_zero_right]
    simp (disch := omega) only [if_pos, if_neg, gm_128_44]
  | succ k ih =>
    intro n a b x s hb hn hx ha hb9
    obtain ⟨n, rfl⟩ : ∃ m, n = m + 2 := ⟨n - 2, by omega⟩
    rw [gm_128_9]
    by_cases b0 : b = 0
    · subst b0
      rw [Nat.gcd_zero_right]
      simp (disch := omega) only [if_pos, if_neg, gm_128_44]
    · have e1 : (a : Int) % (b : Int) = ((a % b : Nat) : Int) := rfl
      have i1 : ((x : Int) + 1) = ((x + 1 : Nat) : Int) := by omega
      have m1 := Nat.mod_lt a (Nat.pos_of_ne_zero b0)
      have g1 : Nat.gcd a b = Nat.gcd b (a % b) := by rw [Nat.gcd_comm a b, Nat.gcd_rec b a, Nat.gcd_comm]
      rw [e1, g1, i1]
      simp (disch := omega) only [if_pos, if_neg]
      generalize a % b = c at *
      rw [gm_128_9]
      by_cases c0 : c = 0
      · subst c0
        rw [Nat.gcd_zero_right]
        simp (disch := omega) only [if_pos, if_neg, gm_128_44]
      · have e2 : (b : Int) % (c : Int) = ((b % c : Nat) : Int) := rfl
        have i2 : (((x + 1 : Nat) : Int) + 1) = ((x + 2 : Nat) : Int) := by omega
        have m2 := Nat.mod_lt b (Nat.pos_of_ne_zero c0)
        have g2 : Nat.gcd b c = Nat.gcd c (b % c) := by rw [Nat.gcd_comm b c, Nat.gcd_rec c b, Nat.gcd_comm]
        have h := mod_half (Nat.pos_of_ne_zero c0) m1 hb
        rw [e2, g2, i2]
        simp (disch := omega) only [if_pos, if_neg]
        exact ih n c (b % c) (x + 2) s h (by omega) (by omega) (by omega) (by omega)
theorem sp_128 (s : gx_S) {a b : Nat} (ha : a ≤ 9000000000000000000) (hb : b < 1099511627776) : gm_128 a b s = some (((Nat.gcd a b : Nat) : Int), s) := sl_128 40 100000 a b 0 s (by omega) (by omega) (by omega) ha (by omega)
/-- the least common multiple of the first n totals that aren't 0 -/
def cm (v : Nat → Int) : Nat → Nat
  | 0 => 1
  | n + 1 => if v n ≤ 0 then cm v n else Nat.lcm (cm v n) (v n).toNat
theorem cm_pos (v : Nat → Int) : ∀ n, 0 < cm v n
  | 0 => Nat.zero_lt_one
  | n + 1 => by
    show 0 < if v n ≤ 0 then cm v n else Nat.lcm (cm v n) (v n).toNat
    by_cases h : v n ≤ 0
    · rw [if_pos h]; exact cm_pos v n
    · rw [if_neg h]
      exact Nat.lcm_pos (cm_pos v n) (by omega)
/-- the same, multiplied -/
def pr (v : Nat → Int) : Nat → Nat
  | 0 => 1
  | n + 1 => pr v n * if v n ≤ 0 then 1 else (v n).toNat
theorem cm_le (v : Nat → Int) : ∀ n, cm v n ≤ pr v n
  | 0 => Nat.le_refl 1
  | n + 1 => by
    show (if v n ≤ 0 then cm v n else Nat.lcm (cm v n) (v n).toNat) ≤ pr v n * if v n ≤ 0 then 1 else (v n).toNat
    have ih := cm_le v n
    by_cases q : v n ≤ 0
    · rw [if_pos q, if_pos q, Nat.mul_one]
      exact ih
    · rw [if_neg q, if_neg q]
      exact Nat.le_trans (Nat.div_le_self _ _) (Nat.mul_le_mul_right _ ih)
theorem am2 (a b : Nat) : 4 * (a * b) ≤ (a + b) ^ 2 := by
  rcases Nat.le_total a b with h | h
  · obtain ⟨d, rfl⟩ := Nat.le.dest h
    simp only [Nat.pow_two, Nat.mul_add, Nat.add_mul, Nat.mul_comm d a]
    omega
  · obtain ⟨d, rfl⟩ := Nat.le.dest h
    simp only [Nat.pow_two, Nat.mul_add, Nat.add_mul, Nat.mul_comm d b]
    omega
theorem am_up {k m p q s t : Nat} (hp : m * p ≤ s ^ k) (hq : m * q ≤ t ^ k) : 4 ^ k * (m * m * (p * q)) ≤ (s + t) ^ (2 * k) := by
  have a := Nat.mul_le_mul hp hq
  have b := Nat.pow_le_pow_left (am2 s t) k
  rw [Nat.mul_pow, Nat.mul_pow, ← Nat.pow_mul] at b
  calc 4 ^ k * (m * m * (p * q)) = 4 ^ k * ((m * p) * (m * q)) := by rw [Nat.mul_mul_mul_comm]
    _ ≤ 4 ^ k * (s ^ k * t ^ k) := Nat.mul_le_mul_left _ a
    _ ≤ (s + t) ^ (2 * k) := b
theorem am8 (a b c d e f g h : Nat) (hs : a + b + c + d + e + f + g + h ≤ 872) : a * b * c * d * e * f * g * h ≤ 20000000000000000 := by
  have y1 := am_up (k := 2) (m := 4) (p := a * b) (q := c * d) (s := a + b) (t := c + d) (am2 a b) (am2 c d)
  have y2 := am_up (k := 2) (m := 4) (p := e * f) (q := g * h) (s := e + f) (t := g + h) (am2 e f) (am2 g h)
  rw [show (4 : Nat) ^ 2 = 16 from rfl, show 2 * 2 = 4 from rfl] at y1 y2
  have z := am_up (k := 4) (m := 256) (p := a * b * (c * d)) (q := e * f * (g * h)) (s := a + b + (c + d)) (t := e + f + (g + h)) (by omega) (by omega)
  have w := Nat.pow_le_pow_left (show a + b + (c + d) + (e + f + (g + h)) ≤ 872 by omega) (2 * 4)
  have n1 : (872 : Nat) ^ (2 * 4) = 334296538331669579431936 := by decide
  have n2 : (4 : Nat) ^ 4 = 256 := by decide
  have e1 : a * b * c * d * e * f * g * h = a * b * (c * d) * (e * f * (g * h)) := by
    simp only [Nat.mul_assoc]
  rw [n1] at w
  rw [n2] at z
  rw [e1]
  generalize a * b * (c * d) * (e * f * (g * h)) = X at *
  omega
theorem cm_dvd {v : Nat → Int} : ∀ {n k : Nat}, k < n → 0 < v k → (v k).toNat ∣ cm v n
  | n + 1, k, hk, hv => by
    show (v k).toNat ∣ if v n ≤ 0 then cm v n else Nat.lcm (cm v n) (v n).toNat
    by_cases e : k = n
    · subst e
      rw [if_neg (by omega)]
      exact Nat.dvd_lcm_right _ _
    · by_cases q : v n ≤ 0
      · rw [if_pos q]
        exact cm_dvd (by omega) hv
      · rw [if_neg q]
        exact Nat.dvd_trans (cm_dvd (by omega) hv) (Nat.dvd_lcm_left _ _)
theorem lcm_div (a b : Nat) (h : 0 < a) : Nat.lcm a b = a / Nat.gcd a b * b := by
  unfold Nat.lcm
  rw [Nat.mul_comm a b, Nat.mul_div_assoc _ (Nat.gcd_dvd_left a b), Nat.mul_comm]
end
section
/-! common and restsOf of the CLASS -/
theorem pr_mono (v : Nat → Int) (n : Nat) : pr v n ≤ pr v (n + 1) := by
  show pr v n ≤ pr v n * if v n ≤ 0 then 1 else (v n).toNat
  have h : 1 ≤ if v n ≤ 0 then 1 else (v n).toNat := by split <;> omega
  exact Nat.le_trans (Nat.le_of_eq (Nat.mul_one _).symm) (Nat.mul_le_mul_left _ h)
theorem pr_up (v : Nat → Int) {n : Nat} : ∀ d, pr v n ≤ pr v (n + d)
  | 0 => Nat.le_refl _
  | d + 1 => Nat.le_trans (pr_up v d) (pr_mono v (n + d))
theorem cm_B {v : Nat → Int} (h : ∀ k, k < 8 → 0 ≤ v k) (hs : sg v 8 ≤ 864) {n : Nat} (hn : n ≤ 8) : cm v n ≤ 20000000000000000 := by
  have a : ∀ k, k < 8 → (((if v k ≤ 0 then 1 else (v k).toNat : Nat)) : Int) ≤ v k + 1 := fun k hk => by
    have := h k hk
    split <;> omega
  have a0 := a 0 (by omega)
  have a1 := a 1 (by omega)
  have a2 := a 2 (by omega)
  have a3 := a 3 (by omega)
  have a4 := a 4 (by omega)
  have a5 := a 5 (by omega)
  have a6 := a 6 (by omega)
  have a7 := a 7 (by omega)
  have s8 : sg v 8 = 0 + v 0 + v 1 + v 2 + v 3 + v 4 + v 5 + v 6 + v 7 := rfl
  have b := am8 (if v 0 ≤ 0 then 1 else (v 0).toNat) (if v 1 ≤ 0 then 1 else (v 1).toNat) (if v 2 ≤ 0 then 1 else (v 2).toNat) (if v 3 ≤ 0 then 1 else (v 3).toNat) (if v 4 ≤ 0 then 1 else (v 4).toNat) (if v 5 ≤ 0 then 1 else (v 5).toNat) (if v 6 ≤ 0 then 1 else (v 6).toNat) (if v 7 ≤ 0 then 1 else (v 7).toNat) (by omega)
  have c : pr v 8 = 1 * (if v 0 ≤ 0 then 1 else (v 0).toNat) * (if v 1 ≤ 0 then 1 else (v 1).toNat) * (if v 2 ≤ 0 then 1 else (v 2).toNat) * (if v 3 ≤ 0 then 1 else (v 3).toNat) * (if v 4 ≤ 0 then 1 else (v 4).toNat) * (if v 5 ≤ 0 then 1 else (v 5).toNat) * (if v 6 ≤ 0 then 1 else (v 6).toNat) * (if v 7 ≤ 0 then 1 else (v 7).toNat) := rfl
  rw [Nat.one_mul] at c
  rw [← c] at b
  have d := pr_up v (n := n) (8 - n)
  rw [show n + (8 - n) = 8 by omega] at d
  exact Nat.le_trans (cm_le v n) (Nat.le_trans d b)
theorem sl_78 {t : Nat} {s : gx_S} (h : ∀ k, k < 8 → 0 ≤ s.1 (t + 2) k ∧ s.1 (t + 2) k ≤ 1000000) (hB : ∀ n, n ≤ 8 → cm (s.1 (t + 2)) n ≤ 20000000000000000) : ∀ (n j : Nat), j ≤ 8 → 8 < n + j → gm_78_4 n t (cm (s.1 (t + 2)) j : Nat) j s = some (((cm (s.1 (t + 2)) 8 : Nat) : Int), s) := by
  intro n
  induction n with
  | zero => intro j hj hn; omega
  | succ n ih =>
    intro j hj hn
    by_cases q : j = 8
    · subst q
      rw [gm_78_4]
      simp (disch := omega) only [if_pos]
    · have hv := h j (by omega)
      have hb := hB j hj
      have ih := ih (j + 1) (by omega) (by omega)
      have i5 : ((j : Int)).toNat = j := by omega
      have i3 : ((j : Int) + 1) = ((j + 1 : Nat) : Int) := by omega
      obtain ⟨w, hw⟩ : ∃ w : Nat, s.1 (t + 2) j = w := ⟨(s.1 (t + 2) j).toNat, by omega⟩
      rw [gm_78_4, i5, hw, sp_128 s (by omega) (by omega)]
      by_cases w0 : w = 0
      · have e : cm (s.1 (t + 2)) (j + 1) = cm (s.1 (t + 2)) j := if_pos (by omega)
        rw [e] at ih
        subst w0
        simp (disch := omega) only [if_pos, if_neg, Option.bind_some, gm_78_52, hw, i3]
        exact ih
      · have e : cm (s.1 (t + 2)) (j + 1) = Nat.lcm (cm (s.1 (t + 2)) j) w := by
          have : cm (s.1 (t + 2)) (j + 1) = Nat.lcm (cm (s.1 (t + 2)) j) (s.1 (t + 2) j).toNat := if_neg (by omega)
          rw [this, hw]
          rfl
        have g0 : 0 < Nat.gcd (cm (s.1 (t + 2)) j) w := Nat.gcd_pos_of_pos_right _ (by omega)
        have g1 : Nat.gcd (cm (s.1 (t + 2)) j) w ≤ w := Nat.gcd_le_right _ (by omega)
        rw [e, lcm_div _ _ (cm_pos _ _)] at ih
        have d : ((cm (s.1 (t + 2)) j : Nat) : Int) / ((Nat.gcd (cm (s.1 (t + 2)) j) w : Nat) : Int) * (w : Int) = ((cm (s.1 (t + 2)) j / Nat.gcd (cm (s.1 (t + 2)) j) w * w : Nat) : Int) := rfl
        rw [← d] at ih
        simp (disch := omega) only [if_pos, if_neg, Option.bind_some, gm_78_52, hw, i3]
        exact ih
theorem sp_78 {t : Nat} {s : gx_S} (ht : fx_oc t 7 = true) (h : ∀ k, k < 8 → 0 ≤ s.1 (t + 2) k ∧ s.1 (t + 2) k ≤ 1000000) (hs : sg (s.1 (t + 2)) 8 ≤ 864) : gm_78 t s = some (((cm (s.1 (t + 2)) 8 : Nat) : Int), s) := by
  unfold gm_78
  rw [if_pos ht]
  exact sl_78 h (fun n hn => cm_B (fun k hk => (h k hk).1) hs hn) 100000 0 (by omega) (by omega)
/-- the rests of a column over a common denominator -/
def ro (s : gx_S) (t c : Nat) (K : Int) : Int := sg (fun r => if s.1 (t + 2) r ≤ 0 then 0 else s.1 (t + 7) (9 * r + c) * (K / s.1 (t + 2) r)) 8
theorem sl_79 {t c : Nat} {s : gx_S} {K : Int} (hc : c < 9) (h : ∀ k, k < 8 → 0 ≤ s.1 (t + 2) k ∧ s.1 (t + 2) k ≤ 1000000) (h7 : ∀ k, k < 72 → i32 (s.1 (t + 7) k)) (hK : 0 ≤ K ∧ K ≤ 9000000000000000000) : ∀ (n j : Nat), j ≤ 8 → 8 < n + j → gm_79_6 n t c K (sg (fun r => if s.1 (t + 2) r ≤ 0 then 0 else s.1 (t + 7) (9 * r + c) * (K / s.1 (t + 2) r)) j) j s = some (ro s t c K, s) := by
  intro n
  induction n with
  | zero => intro j hj hn; omega
  | succ n ih =>
    intro j hj hn
    by_cases q : j = 8
    · subst q
      rw [gm_79_6]
      simp (disch := omega) only [if_pos]
      rfl
    · have hv := h j (by omega)
      have i32' := h7 (9 * j + c) (by omega)
      unfold i32 at i32'
      have ih := ih (j + 1) (by omega) (by omega)
      have i5 : ((j : Int)).toNat = j := by omega
      have i6 : (((j : Int) * 9) + c).toNat = 9 * j + c := by omega
      have i3 : ((j : Int) + 1) = ((j + 1 : Nat) : Int) := by omega
      rw [gm_79_6, i5, i6]
      have e : sg (fun r => if s.1 (t + 2) r ≤ 0 then 0 else s.1 (t + 7) (9 * r + c) * (K / s.1 (t + 2) r)) (j + 1) = sg (fun r => if s.1 (t + 2) r ≤ 0 then 0 else s.1 (t + 7) (9 * r + c) * (K / s.1 (t + 2) r)) j + if s.1 (t + 2) j ≤ 0 then 0 else s.1 (t + 7) (9 * j + c) * (K / s.1 (t + 2) j) := rfl
      rw [e] at ih
      by_cases w0 : s.1 (t + 2) j ≤ 0
      · rw [if_pos w0, Int.add_zero] at ih
        simp (disch := omega) only [if_pos, if_neg, gm_79_52, i3]
        exact ih
      · rw [if_neg w0] at ih
        simp (disch := omega) only [if_pos, if_neg, gm_79_52, i3]
        exact ih
theorem sp_79 {t c : Nat} {s : gx_S} {K : Int} (ht : fx_oc t 7 = true) (hc : c < 9) (h : ∀ k, k < 8 → 0 ≤ s.1 (t + 2) k ∧ s.1 (t + 2) k ≤ 1000000) (h7 : ∀ k, k < 72 → i32 (s.1 (t + 7) k)) (hK : 0 ≤ K ∧ K ≤ 9000000000000000000) : gm_79 t c K s = some (ro s t c K, s) := by
  unfold gm_79
  rw [if_pos ht]
  exact sl_79 hc h h7 hK 100000 0 (by omega) (by omega)
end
section
/-! open of the CLASS's balanced table -/
/-- totals and rests are as cutRow leaves them -/
def tv (s : gx_S) (t : Nat) : Prop := (∀ k, k < 8 → 0 ≤ s.1 (t + 2) k ∧ s.1 (t + 2) k ≤ 1000000) ∧ sg (s.1 (t + 2)) 8 ≤ 1000000 ∧ ∀ r c, r < 8 → c < 9 → 0 ≤ s.1 (t + 7) (9 * r + c) ∧ (s.1 (t + 7) (9 * r + c) < s.1 (t + 2) r ∨ s.1 (t + 7) (9 * r + c) = 0)
theorem tv_i32 {s : gx_S} {t : Nat} (h : tv s t) : ∀ k, k < 72 → i32 (s.1 (t + 7) k) := fun k hk => by
  have a := h.2.2 (k / 9) (k % 9) (by omega) (by omega)
  have b := h.1 (k / 9) (by omega)
  rw [show 9 * (k / 9) + k % 9 = k by omega] at a
  unfold i32
  omega
theorem ro_B {s : gx_S} {t : Nat} (h : tv s t) {c : Nat} (hc : c < 9) {K : Int} (hK : 0 ≤ K) : 0 ≤ ro s t c K ∧ ro s t c K ≤ 8 * K := by
  have e : ∀ r, r < 8 → 0 ≤ (if s.1 (t + 2) r ≤ 0 then 0 else s.1 (t + 7) (9 * r + c) * (K / s.1 (t + 2) r)) ∧ (if s.1 (t + 2) r ≤ 0 then 0 else s.1 (t + 7) (9 * r + c) * (K / s.1 (t + 2) r)) ≤ K := fun r hr => by
    have a := h.2.2 r c hr hc
    by_cases v : s.1 (t + 2) r ≤ 0
    · rw [if_pos v]
      omega
    · rw [if_neg v]
      have q0 : 0 ≤ K / s.1 (t + 2) r := Int.ediv_nonneg hK (by omega)
      refine ⟨Int.mul_nonneg a.1 q0, ?_⟩
      have b : s.1 (t + 7) (9 * r + c) * (K / s.1 (t + 2) r) ≤ s.1 (t + 2) r * (K / s.1 (t + 2) r) := Int.mul_le_mul_of_nonneg_right (by omega) q0
      have d := Int.mul_ediv_self_le (x := K) (k := s.1 (t + 2) r) (by omega)
      exact Int.le_trans b d
  refine ⟨sg_nn fun r hr => (e r hr).1, ?_⟩
  have a := sg_le (f := fun r => if s.1 (t + 2) r ≤ 0 then 0 else s.1 (t + 7) (9 * r + c) * (K / s.1 (t + 2) r)) (g := fun _ => K) (n := 8) fun r hr => (e r hr).2
  have b : sg (fun _ => K) 8 = 0 + K + K + K + K + K + K + K + K := rfl
  unfold ro
  omega
theorem sl_42a {t : Nat} {K : Int} (h14 : 14 ≤ t) : ∀ (n j : Nat) (s : gx_S), (∀ k, k < 72 → i32 (s.1 (t + 7) k)) → j ≤ 72 → 72 < n + j → ∃ u : gx_S, gm_42_8 n t K j s = gm_42_54 100000 t K 0 u ∧ u.2 = s.2 ∧ (∀ k i, k ≠ 7 → k ≠ 8 → u.1 k i = s.1 k i) ∧ (∀ i, j ≤ i → i < 72 → u.1 7 i = (if s.1 (t + 7) i ≤ 0 then 0 else 1) ∧ u.1 8 i = 0) ∧ ∀ i, i < j → u.1 7 i = s.1 7 i ∧ u.1 8 i = s.1 8 i := by
  intro n
  induction n with
  | zero => intro j s h hj hn; omega
  | succ n ih =>
    intro j s h hj hn
    by_cases q : j = 72
    · subst q
      refine ⟨s, ?_, rfl, fun _ _ _ _ => rfl, fun i h1 h2 => by omega, fun _ _ => ⟨rfl, rfl⟩⟩
      rw [gm_42_8]
      simp (disch := omega) only [if_pos]
    · have hi := h j (by omega)
      unfold i32 at hi
      have i5 : ((j : Int)).toNat = j := by omega
      have i3 : ((j : Int) + 1) = ((j + 1 : Nat) : Int) := by omega
      have o : ∀ (x : Int) k i, k ≠ 7 → k ≠ 8 → (gw1 (gw1 s 7 j x) 8 j 0).1 k i = s.1 k i := fun x k i h7 h8 => by rw [gw1_1, if_neg (fun y => h8 y.1), gw1_1, if_neg (fun y => h7 y.1)]
      obtain ⟨u, u1, u2, u3, u4, u5⟩ := ih (j + 1) (gw1 (gw1 s 7 j (if s.1 (t + 7) j ≤ 0 then 0 else 1)) 8 j 0) (fun k hk => by rw [o _ _ _ (by omega) (by omega)]; exact h k hk) (by omega) (by omega)
      refine ⟨u, ?_, u2, fun k i h7 h8 => (u3 k i h7 h8).trans (o _ k i h7 h8), fun i h1 h2 => ?_, fun i hi => ?_⟩
      · rw [gm_42_8, i5]
        by_cases w : s.1 (t + 7) j ≤ 0
        · rw [if_pos w] at u1
          simp (disch := omega) only [if_pos, if_neg, gm_42_36, i5, i3]
          exact u1
        · rw [if_neg w] at u1
          simp (disch := omega) only [if_pos, if_neg, gm_42_36, i5, i3]
          exact u1
      · by_cases e : i = j
        · subst e
          obtain ⟨a, b⟩ := u5 i (by omega)
          refine ⟨?_, ?_⟩
          · rw [a, gw1_1, if_neg (by omega), gw1_1, if_pos ⟨rfl, rfl⟩]
          · rw [b, gw1_1, if_pos ⟨rfl, rfl⟩]
        · have a := u4 i (by omega) h2
          rw [o _ _ _ (by omega) (by omega)] at a
          exact a
      · obtain ⟨a, b⟩ := u5 i (by omega)
        refine ⟨?_, ?_⟩
        · rw [a, gw1_1, if_neg (by omega), gw1_1, if_neg (by omega)]
        · rw [b, gw1_1, if_neg (by omega), gw1_1, if_neg (by omega)]
theorem sl_42b {t : Nat} {K : Int} (ht : fx_oc t 7 = true) (hK : 0 < K ∧ K ≤ 20000000000000000) : ∀ (n j : Nat) (s : gx_S), tv s t → j ≤ 9 → 9 < n + j → ∃ u : gx_S, gm_42_54 n t K j s = some u ∧ u.2 = s.2 ∧ (∀ k i, k ≠ 9 → k ≠ 10 → k ≠ 11 → u.1 k i = s.1 k i) ∧ (∀ i, j ≤ i → i < 9 → u.1 9 i = ro s t i K / K ∧ u.1 10 i = ro s t i K / K + (if ro s t i K % K = 0 then 0 else 1) ∧ u.1 11 i = 0) ∧ ∀ i, i < j → u.1 9 i = s.1 9 i ∧ u.1 10 i = s.1 10 i ∧ u.1 11 i = s.1 11 i := by
  have t14 := oc7_14 ht
  intro n
  induction n with
  | zero => intro j s h hj hn; omega
  | succ n ih =>
    intro j s h hj hn
    by_cases q : j = 9
    · subst q
      refine ⟨s, ?_, rfl, fun _ _ _ _ _ => rfl, fun i h1 h2 => by omega, fun _ _ => ⟨rfl, rfl, rfl⟩⟩
      rw [gm_42_54]
      simp (disch := omega) only [if_pos]
    · have hr := ro_B h (c := j) (by omega) (K := K) (by omega)
      have i5 : ((j : Int)).toNat = j := by omega
      have i3 : ((j : Int) + 1) = ((j + 1 : Nat) : Int) := by omega
      have m0 := Int.emod_nonneg (ro s t j K) (b := K) (by omega)
      have m1 := Int.emod_lt_of_pos (ro s t j K) (b := K) (by omega)
      have e79 := sp_79 ht (c := j) (by omega) h.1 (tv_i32 h) (K := K) (by omega)
      have o : ∀ (x y : Int) k i, k ≠ 9 → k ≠ 10 → k ≠ 11 → (gw1 (gw1 (gw1 s 9 j x) 10 j y) 11 j 0).1 k i = s.1 k i := fun x y k i h9 h10 h11 => by rw [gw1_1, if_neg (fun y => h11 y.1), gw1_1, if_neg (fun y => h10 y.1), gw1_1, if_neg (fun y => h9 y.1)]
      have roe : ∀ x y c, ro (gw1 (gw1 (gw1 s 9 j x) 10 j y) 11 j 0) t c K = ro s t c K := fun x y c => by
        unfold ro
        simp only [o x y (t + 2) _ (by omega) (by omega) (by omega), o x y (t + 7) _ (by omega) (by omega) (by omega)]
      have tve : ∀ x y, tv (gw1 (gw1 (gw1 s 9 j x) 10 j y) 11 j 0) t := fun x y => by
        unfold tv
        rw [show (gw1 (gw1 (gw1 s 9 j x) 10 j y) 11 j 0).1 (t + 2) = s.1 (t + 2) from funext fun k => o x y (t + 2) k (by omega) (by omega) (by omega), show (gw1 (gw1 (gw1 s 9 j x) 10 j y) 11 j 0).1 (t + 7) = s.1 (t + 7) from funext fun k => o x y (t + 7) k (by omega) (by omega) (by omega)]
        exact h
      obtain ⟨u, u1, u2, u3, u4, u5⟩ := ih (j + 1) (gw1 (gw1 (gw1 s 9 j (ro s t j K / K)) 10 j (ro s t j K / K + (if ro s t j K % K = 0 then 0 else 1))) 11 j 0) (tve _ _) (by omega) (by omega)
      refine ⟨u, ?_, u2, fun k i h9 h10 h11 => (u3 k i h9 h10 h11).trans (o _ _ k i h9 h10 h11), fun i h1 h2 => ?_, fun i hi => ?_⟩
      · have x9 : (gw1 s 9 j (ro s t j K / K)).1 9 j = ro s t j K / K := by rw [gw1_1, if_pos ⟨rfl, rfl⟩]
        rw [gm_42_54, e79]
        by_cases w : ro s t j K % K = 0
        · rw [if_pos w] at u1
          simp (disch := omega) only [if_pos, if_neg, Option.bind_some, gm_42_115, i5, i3, x9]
          exact u1
        · rw [if_neg w] at u1
          simp (disch := omega) only [if_pos, if_neg, Option.bind_some, gm_42_115, i5, i3, x9]
          exact u1
      · by_cases e : i = j
        · subst e
          obtain ⟨a, b, c⟩ := u5 i (by omega)
          refine ⟨?_, ?_, ?_⟩
          · rw [a, gw1_1, if_neg (by omega), gw1_1, if_neg (by omega), gw1_1, if_pos ⟨rfl, rfl⟩]
          · rw [b, gw1_1, if_neg (by omega), gw1_1, if_pos ⟨rfl, rfl⟩]
          · rw [c, gw1_1, if_pos ⟨rfl, rfl⟩]
        · have a := u4 i (by omega) h2
          rw [roe] at a
          exact a
      · obtain ⟨a, b, c⟩ := u5 i (by omega)
        refine ⟨?_, ?_, ?_⟩
        · rw [a, gw1_1, if_neg (by omega), gw1_1, if_neg (by omega), gw1_1, if_neg (by omega)]
        · rw [b, gw1_1, if_neg (by omega), gw1_1, if_neg (by omega), gw1_1, if_neg (by omega)]
        · rw [c, gw1_1, if_neg (by omega), gw1_1, if_neg (by omega), gw1_1, if_neg (by omega)]
/-- open: entries with rests are free, columns' least and most -/
theorem sp_42 {t : Nat} {s : gx_S} (ht : fx_oc t 7 = true) (h : tv s t) (h8 : sg (s.1 (t + 2)) 8 ≤ 864) : ∃ u : gx_S, gm_42 t s = some u ∧ scg t s u ∧ (∀ i, u.1 (t + 8) i = s.1 (t + 8) i) ∧ (∀ i, i < 72 → u.1 7 i = (if s.1 (t + 7) i ≤ 0 then 0 else 1) ∧ u.1 8 i = 0) ∧ ∀ i, i < 9 → u.1 9 i = ro s t i (cm (s.1 (t + 2)) 8 : Nat) / (cm (s.1 (t + 2)) 8 : Nat) ∧ u.1 10 i = ro s t i (cm (s.1 (t + 2)) 8 : Nat) / (cm (s.1 (t + 2)) 8 : Nat) + (if ro s t i (cm (s.1 (t + 2)) 8 : Nat) % (cm (s.1 (t + 2)) 8 : Nat) = 0 then 0 else 1) ∧ u.1 11 i = 0 := by
  have t14 := oc7_14 ht
  have hB := cm_B (v := s.1 (t + 2)) (fun k hk => (h.1 k hk).1) h8 (n := 8) (by omega)
  have hP := cm_pos (s.1 (t + 2)) 8
  obtain ⟨a, a1, a2, a3, a4, a5⟩ := sl_42a (K := (cm (s.1 (t + 2)) 8 : Nat)) t14 100000 0 s (tv_i32 h) (by omega) (by omega)
  have z2 : a.1 (t + 2) = s.1 (t + 2) := funext fun k => a3 _ _ (by omega) (by omega)
  have z7 : a.1 (t + 7) = s.1 (t + 7) := funext fun k => a3 _ _ (by omega) (by omega)
  have tva : tv a t := by
    unfold tv
    rw [z2, z7]
    exact h
  have roa : ∀ c K, ro a t c K = ro s t c K := fun c K => by
    unfold ro
    rw [z2, z7]
  obtain ⟨u, u1, u2, u3, u4, u5⟩ := sl_42b (K := (cm (s.1 (t + 2)) 8 : Nat)) ht (by omega) 100000 0 a tva (by omega) (by omega)
  refine ⟨u, ?_, ⟨u2.trans a2, fun k j q1 q2 q3 => (u3 k j (by omega) (by omega) (by omega)).trans (a3 k j (by omega) (by omega))⟩, fun i => (u3 _ i (by omega) (by omega) (by omega)).trans (a3 _ i (by omega) (by omega)), fun i hi => ?_, fun i hi => ?_⟩
  · unfold gm_42
    rw [if_pos ht, sp_78 ht h.1 h8, Option.bind_some]
    exact a1.trans u1
  · rw [u3 7 i (by omega) (by omega) (by omega), u3 8 i (by omega) (by omega) (by omega)]
    exact a4 i (by omega) hi
  · have b := u4 i (by omega) hi
    rw [roa] at b
    exact b
end
section
/-! the fractional table: no cut is too narrow -/
theorem sg_spl (b : Nat → Bool) (f : Nat → Int) (n : Nat) : sg (fun c => if b c = true then f c else 0) n + sg (fun c => if b c = false then f c else 0) n = sg f n := by
  rw [← sg_add]
  exact sg_eq fun c _ => by
    show (if _ then _ else (0 : Int)) + (if _ then _ else (0 : Int)) = _
    cases b c with
    | true => rw [if_pos rfl, if_neg (by decide)]; omega
    | false => rw [if_neg (by decide), if_pos rfl]; omega
theorem cut_K {y : Nat → Nat → Int} {K : Int} {F : Nat → Nat → Int} {W O L : Nat → Int} (hK : 0 < K) (hy : ∀ r c, r < 8 → c < 9 → 0 ≤ y r c ∧ y r c ≤ K * F r c) (hrow : ∀ r, r < 8 → sg (fun c => y r c) 9 = K * W r) (hcol : ∀ c, c < 9 → K * L c ≤ sg (fun r => y r c) 8 ∧ sg (fun r => y r c) 8 ≤ K * O c) (R C : Nat → Bool) : sg (fun r => if R r = true then W r else 0) 8 ≤ sg (fun c => if C c = true then O c else 0) 9 + sg (fun r => sg (fun c => if R r = true ∧ C c = false then F r c else 0) 9) 8 ∧ sg (fun c => if C c = false then L c else 0) 9 ≤ sg (fun r => sg (fun c => if R r = true ∧ C c = false then F r c else 0) 9) 8 + sg (fun r => if R r = false then W r else 0) 8 := by
  have a := cut_id y R C 8 9
  have n1 : 0 ≤ sg (fun r => sg (fun c => if R r = false ∧ C c = true then y r c else 0) 9) 8 := sg_nn fun r hr => sg_nn fun c hc => by
    show 0 ≤ if _ then _ else (0 : Int)
    split
    · exact (hy r c hr hc).1
    · omega
  have n2 : sg (fun r => sg (fun c => if R r = true ∧ C c = false then y r c else 0) 9) 8 ≤ K * sg (fun r => sg (fun c => if R r = true ∧ C c = false then F r c else 0) 9) 8 := by
    rw [← sg_mul]
    exact sg_le fun r hr => by
      show sg _ 9 ≤ K * sg _ 9
      rw [← sg_mul]
      exact sg_le fun c hc => by
        show (if _ then _ else (0 : Int)) ≤ K * (if _ then _ else (0 : Int))
        split
        · exact (hy r c hr hc).2
        · omega
  have n3 : sg (fun c => if C c = true then sg (fun r => y r c) 8 else 0) 9 ≤ K * sg (fun c => if C c = true then O c else 0) 9 := by
    rw [← sg_mul]
    exact sg_le fun c hc => by
      show (if _ then _ else (0 : Int)) ≤ K * (if _ then _ else (0 : Int))
      split
      · exact (hcol c hc).2
      · omega
  have n4 : sg (fun r => if R r = true then sg (fun c => y r c) 9 else 0) 8 = K * sg (fun r => if R r = true then W r else 0) 8 := by
    rw [← sg_mul]
    exact sg_eq fun r hr => by
      show (if _ then _ else (0 : Int)) = K * (if _ then _ else (0 : Int))
      split
      · exact hrow r hr
      · omega
  have n5 : K * sg (fun c => if C c = false then L c else 0) 9 ≤ sg (fun c => if C c = false then sg (fun r => y r c) 8 else 0) 9 := by
    rw [← sg_mul]
    exact sg_le fun c hc => by
      show K * (if _ then _ else (0 : Int)) ≤ (if _ then _ else (0 : Int))
      split
      · exact (hcol c hc).1
      · omega
  have n6 : sg (fun r => if R r = false then sg (fun c => y r c) 9 else 0) 8 = K * sg (fun r => if R r = false then W r else 0) 8 := by
    rw [← sg_mul]
    exact sg_eq fun r hr => by
      show (if _ then _ else (0 : Int)) = K * (if _ then _ else (0 : Int))
      split
      · exact hrow r hr
      · omega
  have s1 := sg_spl C (fun c => sg (fun r => y r c) 8) 9
  have s2 := sg_spl R (fun r => sg (fun c => y r c) 9) 8
  have s3 := sg_swap y 9 8
  refine ⟨Int.le_of_mul_le_mul_left ?_ hK, Int.le_of_mul_le_mul_left ?_ hK⟩
  · rw [Int.mul_add]
    omega
  · rw [Int.mul_add]
    omega
/-- what cutRow leaves: rests of a row add up to the left over times the total -/
def rv (s : gx_S) (t : Nat) : Prop := tv s t ∧ ∀ r, r < 8 → (s.1 (t + 2) r = 0 → ∀ c, c < 9 → s.1 (t + 7) (9 * r + c) = 0) ∧ sg (fun c => s.1 (t + 7) (9 * r + c)) 9 = lo s t r * s.1 (t + 2) r
/-- after open: the rows' numbers and the columns' least fit -/
theorem cut_42 {s u : gx_S} {t : Nat} (h : rv s t) (h7 : ∀ i, i < 72 → u.1 7 i = (if s.1 (t + 7) i ≤ 0 then 0 else 1)) (h9 : ∀ i, i < 9 → u.1 9 i = ro s t i (cm (s.1 (t + 2)) 8 : Nat) / (cm (s.1 (t + 2)) 8 : Nat) ∧ u.1 10 i = ro s t i (cm (s.1 (t + 2)) 8 : Nat) / (cm (s.1 (t + 2)) 8 : Nat) + (if ro s t i (cm (s.1 (t + 2)) 8 : Nat) % (cm (s.1 (t + 2)) 8 : Nat) = 0 then 0 else 1)) : CA u (lo s t) ∧ CB u (lo s t) := by
  have hP := cm_pos (s.1 (t + 2)) 8
  obtain ⟨K, hK⟩ : ∃ K : Int, K = (cm (s.1 (t + 2)) 8 : Nat) := ⟨_, rfl⟩
  rw [← hK] at h9
  have K0 : 0 < K := by omega
  have dv : ∀ r, r < 8 → 0 < s.1 (t + 2) r → s.1 (t + 2) r * (K / s.1 (t + 2) r) = K := fun r hr hv => by
    refine Int.mul_ediv_cancel' ?_
    have a := cm_dvd (v := s.1 (t + 2)) (n := 8) (k := r) hr hv
    have b : ((s.1 (t + 2) r).toNat : Int) ∣ ((cm (s.1 (t + 2)) 8 : Nat) : Int) := Int.natCast_dvd_natCast.mpr a
    rw [Int.toNat_of_nonneg (by omega), ← hK] at b
    exact b
  have key := fun R C : Nat → Bool => cut_K (y := fun r c => if s.1 (t + 2) r ≤ 0 then 0 else s.1 (t + 7) (9 * r + c) * (K / s.1 (t + 2) r)) (K := K) (F := fun r c => u.1 7 (9 * r + c)) (W := lo s t) (O := u.1 10) (L := u.1 9) K0 (fun r c hr hc => by
    have a := h.1.2.2 r c hr hc
    have b := h7 (9 * r + c) (by omega)
    show 0 ≤ (if _ then _ else (_ : Int)) ∧ (if _ then _ else (_ : Int)) ≤ K * u.1 7 (9 * r + c)
    rw [b]
    by_cases v : s.1 (t + 2) r ≤ 0
    · rw [if_pos v]
      refine ⟨Int.le_refl 0, Int.mul_nonneg (by omega) (by split <;> omega)⟩
    · rw [if_neg v]
      have q0 : 0 ≤ K / s.1 (t + 2) r := Int.ediv_nonneg (by omega) (by omega)
      refine ⟨Int.mul_nonneg a.1 q0, ?_⟩
      by_cases w : s.1 (t + 7) (9 * r + c) ≤ 0
      · rw [if_pos w, show s.1 (t + 7) (9 * r + c) = 0 by omega]
        omega
      · rw [if_neg w, Int.mul_one]
        have d := dv r hr (by omega)
        have e : s.1 (t + 7) (9 * r + c) * (K / s.1 (t + 2) r) ≤ s.1 (t + 2) r * (K / s.1 (t + 2) r) := Int.mul_le_mul_of_nonneg_right (by omega) q0
        omega) (fun r hr => by
    show sg (fun c => if s.1 (t + 2) r ≤ 0 then 0 else s.1 (t + 7) (9 * r + c) * (K / s.1 (t + 2) r)) 9 = K * lo s t r
    have v0 := h.1.1 r hr
    by_cases v : s.1 (t + 2) r ≤ 0
    · rw [sg_0 fun c _ => if_pos v]
      have : lo s t r = 0 := if_pos v
      rw [this]
      omega
    · rw [sg_eq (g := fun c => (K / s.1 (t + 2) r) * s.1 (t + 7) (9 * r + c)) fun c _ => (if_neg v).trans (Int.mul_comm _ _), sg_mul, (h.2 r hr).2]
      have d := dv r hr (by omega)
      calc K / s.1 (t + 2) r * (lo s t r * s.1 (t + 2) r) = (s.1 (t + 2) r * (K / s.1 (t + 2) r)) * lo s t r := by rw [Int.mul_comm (lo s t r), ← Int.mul_assoc, Int.mul_comm (K / s.1 (t + 2) r)]
        _ = K * lo s t r := by rw [d]) (fun c hc => by
    obtain ⟨e9, e10⟩ := h9 c hc
    show K * u.1 9 c ≤ ro s t c K ∧ ro s t c K ≤ K * u.1 10 c
    rw [e9, e10]
    have d := Int.mul_ediv_add_emod (ro s t c K) K
    have m0 := Int.emod_nonneg (ro s t c K) (b := K) (by omega)
    have m1 := Int.emod_lt_of_pos (ro s t c K) (b := K) K0
    refine ⟨by omega, ?_⟩
    rw [Int.mul_add]
    by_cases z : ro s t c K % K = 0
    · rw [if_pos z]
      omega
    · rw [if_neg z]
      omega) R C
  exact ⟨fun R C => (key R C).1, fun R C => (key R C).2⟩
end
section
/-! the first of all tables that come right; the CLASS's balanced table is it -/
def LG (L O F0 W M : Nat → Int) : Prop := FE L O F0 W M ∧ ∀ T, FE L O F0 W T → ∀ j, j < 72 → (∀ i, i < j → T i = M i) → T j ≤ M j
theorem LG_un {L O F0 W M N : Nat → Int} (a : LG L O F0 W M) (b : LG L O F0 W N) : ∀ j, j < 72 → M j = N j := by
  have h : ∀ k j, j < k → j < 72 → M j = N j := by
    intro k
    induction k with
    | zero => intro j h; omega
    | succ k ih =>
      intro j h1 h2
      have x := b.2 M a.1 j h2 fun i hi => ih i (by omega) (by omega)
      have y := a.2 N b.1 j h2 fun i hi => (ih i (by omega) (by omega)).symm
      omega
  exact fun j hj => h (j + 1) j (by omega) hj
theorem FE_c {L O F0 W L' O' F' W' M N : Nat → Int} (h : FE L O F0 W M) (hL : ∀ c, c < 9 → L' c = L c) (hO : ∀ c, c < 9 → O' c = O c) (hF : ∀ i, i < 72 → F' i = F0 i) (hW : ∀ r, r < 8 → W' r = W r) (hM : ∀ i, i < 72 → N i = M i) : FE L' O' F' W' N := by
  refine ⟨fun i hi => ?_, fun r hr => ?_, fun c hc => ?_⟩
  · rw [hM i hi, hF i hi]
    exact h.1 i hi
  · rw [hW r hr, ← h.2.1 r hr]
    exact sg_eq fun c hc => hM _ (by omega)
  · rw [hL c hc, hO c hc, sg_eq (g := fun r => M (9 * r + c)) fun r hr => hM _ (by omega)]
    exact h.2.2 c hc
theorem LG_c {L O F0 W L' O' F' W' M N : Nat → Int} (h : LG L O F0 W M) (hL : ∀ c, c < 9 → L' c = L c) (hO : ∀ c, c < 9 → O' c = O c) (hF : ∀ i, i < 72 → F' i = F0 i) (hW : ∀ r, r < 8 → W' r = W r) (hM : ∀ i, i < 72 → N i = M i) : LG L' O' F' W' N := by
  refine ⟨FE_c h.1 hL hO hF hW hM, fun T hT j hj hi => ?_⟩
  have a := h.2 T (FE_c hT (fun c hc => (hL c hc).symm) (fun c hc => (hO c hc).symm) (fun c hc => (hF c hc).symm) (fun c hc => (hW c hc).symm) (fun _ _ => rfl)) j hj fun i h => by rw [hi i h, hM i (by omega)]
  rw [hM j hj]
  exact a
theorem FX_LG {L O F0 W : Nat → Int} {s : gx_S} (X : FX L O F0 W s 72) : LG L O F0 W (s.1 8) := by
  obtain ⟨x1, x2, x3, x4, x5, x6, x7⟩ := X
  refine ⟨⟨fun i hi => ⟨(x1.1 i hi).2, x4 i hi⟩, fun r hr => by rw [← x3 r hr, ph_r hr], fun c hc => ?_⟩, fun T hT j hj hi => x7 T hT j hj hj hi⟩
  have a := x1.2.2 c hc
  have b := x2 c hc
  have d := x1.2.1 c hc
  rw [ph_c hc] at a
  omega
/-- how many are left over in a row: 0 to 8 -/
theorem lo_r {s : gx_S} {t : Nat} (h : rv s t) {r : Nat} (hr : r < 8) : 0 ≤ lo s t r ∧ lo s t r ≤ 9 := by
  have v0 := h.1.1 r hr
  by_cases v : s.1 (t + 2) r ≤ 0
  · have : lo s t r = 0 := if_pos v
    omega
  · have a := (h.2 r hr).2
    have b := sg_le (f := fun c => s.1 (t + 7) (9 * r + c)) (g := fun _ => s.1 (t + 2) r) (n := 9) fun c hc => by
      have := h.1.2.2 r c hr hc
      show s.1 (t + 7) (9 * r + c) ≤ s.1 (t + 2) r
      omega
    have e : sg (fun _ => s.1 (t + 2) r) 9 = 9 * s.1 (t + 2) r := by
      show 0 + s.1 (t + 2) r + s.1 (t + 2) r + s.1 (t + 2) r + s.1 (t + 2) r + s.1 (t + 2) r + s.1 (t + 2) r + s.1 (t + 2) r + s.1 (t + 2) r + s.1 (t + 2) r = _
      omega
    have d := sg_nn (f := fun c => s.1 (t + 7) (9 * r + c)) (n := 9) fun c hc => (h.1.2.2 r c hr hc).1
    rw [a] at b d
    rw [e] at b
    refine ⟨?_, Int.le_of_mul_le_mul_right b (by omega)⟩
    exact Int.nonneg_of_mul_nonneg_left d (by omega)
def fr (s : gx_S) (t i : Nat) : Int := if s.1 (t + 7) i ≤ 0 then 0 else 1
def ls (s : gx_S) (t c : Nat) : Int := ro s t c (cm (s.1 (t + 2)) 8 : Nat) / (cm (s.1 (t + 2)) 8 : Nat)
def ms (s : gx_S) (t c : Nat) : Int := ls s t c + if ro s t c (cm (s.1 (t + 2)) 8 : Nat) % (cm (s.1 (t + 2)) 8 : Nat) = 0 then 0 else 1
theorem div8 {x K : Int} (hK : 0 < K) (h0 : 0 ≤ x) (h : x ≤ 8 * K) : 0 ≤ x / K ∧ x / K ≤ 8 :=
  ⟨Int.ediv_nonneg h0 (by omega), Int.le_trans (Int.ediv_le_ediv hK h) (Int.le_of_eq (Int.mul_ediv_cancel 8 (by omega)))⟩
theorem ls_r {s : gx_S} {t c : Nat} (h : tv s t) (hc : c < 9) : 0 ≤ ls s t c ∧ ls s t c ≤ 8 ∧ ls s t c ≤ ms s t c ∧ ms s t c ≤ 9 := by
  have hP := cm_pos (s.1 (t + 2)) 8
  unfold ms ls
  generalize cm (s.1 (t + 2)) 8 = N at *
  have a := ro_B h hc (K := (N : Int)) (by omega)
  have d := div8 (by omega) a.1 a.2
  split <;> omega
/-- open, fillRow, fillColumn and fix together -/
theorem sp_41b {s : gx_S} {t : Nat} (ht : fx_oc t 7 = true) (h : rv s t) (h8 : sg (s.1 (t + 2)) 8 ≤ 864) : ∃ u : gx_S, ((gm_42 t s).bind fun q => gm_41_20 100000 t 0 q) = some u ∧ LG (ls s t) (ms s t) (fr s t) (lo s t) (u.1 8) ∧ scg t s u ∧ (∀ j, j < 72 → u.1 (t + 8) j = s.1 (t + 6) j + u.1 8 j) ∧ ∀ j, 72 ≤ j → u.1 (t + 8) j = s.1 (t + 8) j := by
  have t14 := oc7_14 ht
  obtain ⟨a, a1, a2, a3, a4, a5⟩ := sp_42 ht h.1 h8
  obtain ⟨cA, cB⟩ := cut_42 h (fun i hi => (a4 i hi).1) (fun i hi => ⟨(a5 i hi).1, (a5 i hi).2.1⟩)
  have z : ∀ k j, 14 ≤ k → k ≠ t + 8 → a.1 k j = s.1 k j := fun k j h1 h2 => a2.2 k j (by omega) (by omega) h2
  have zl : lo a t = lo s t := funext fun r => by
    unfold lo
    simp only [z (t + 2) _ (by omega) (by omega), z (t + 1) _ (by omega) (by omega), z (t + 6) _ (by omega) (by omega)]
  have a9 : ∀ c, c < 9 → a.1 9 c = ls s t c := fun c hc => (a5 c hc).1
  have a10 : ∀ c, c < 9 → a.1 10 c = ms s t c := fun c hc => (a5 c hc).2.1
  have p0 : ∀ v, v < 17 → ph a v = 0 := fun v hv => by
    by_cases e : v < 8
    · rw [ph_r e]
      exact sg_0 fun c hc => (a4 _ (by omega)).2
    · obtain ⟨c, rfl⟩ : ∃ c, v = 8 + c := ⟨v - 8, by omega⟩
      rw [ph_c (by omega), (a5 c (by omega)).2.2, sg_0 fun r hr => (a4 _ (by omega)).2]
      rfl
  have F : FL a := by
    refine ⟨fun j hj => ?_, fun c hc => ?_, fun c hc => p0 _ (by omega)⟩
    · rw [(a4 j hj).1, (a4 j hj).2]
      split <;> omega
    · have r := ls_r h.1 hc
      rw [a9 c hc, a10 c hc, (a5 c hc).2.2]
      omega
  have M : MF a := fun j hj => by
    rw [(a4 j hj).1, (a4 j hj).2]
    split <;> omega
  obtain ⟨u, u1, u2, u3, u4, u5⟩ := sl_41r ht 100000 0 a F M (by rw [zl]; exact cA) (by rw [zl]; exact cB) (fun k hk => by
    have := h.1.1 k hk
    rw [z _ _ (by omega) (by omega)]
    unfold i32
    omega) (fun k hk => by rw [zl]; exact lo_r h hk) (fun k hk => by rw [p0 k (by omega), if_neg (by omega)]) (fun k hk => by rw [a9 k hk]; exact (ls_r h.1 hk).2.1) (by omega) (by omega)
  refine ⟨u, ?_, LG_c (FX_LG u2) (fun c hc => (a9 c hc).symm) (fun c hc => (a10 c hc).symm) (fun i hi => (a4 i hi).1.symm) (fun r hr => by rw [zl]) (fun _ _ => rfl), scg_tr a2 u3, fun j hj => ?_, fun j hj => ?_⟩
  · rw [a1, Option.bind_some]
    exact u1
  · rw [u4 j hj, z _ _ (by omega) (by omega)]
  · rw [u5 j hj, a3]
end
section
/-! THE CLASS's TABLE: cut -/
def am (s : gx_S) (t r c : Nat) : Int := if sg (fun c => s.1 (t + 4) (9 * r + c)) 9 = 0 then s.1 (t + 5) (9 * r + c) else s.1 (t + 4) (9 * r + c)
def aw (s : gx_S) (t r : Nat) : Int := sg (fun c => am s t r c) 9
def af (s : gx_S) (t r c : Nat) : Int := if aw s t r ≤ 0 then 0 else s.1 (t + 1) r * am s t r c / aw s t r
def ar (s : gx_S) (t r c : Nat) : Int := if aw s t r ≤ 0 then 0 else s.1 (t + 1) r * am s t r c % aw s t r
theorem sl_70b {a : gx_S} {t r : Nat} {W : Int} (k : Nat → Int → gx_S → Option gx_S) (ht : fx_oc t 7 = true) (hr : r < 8) (hp : 0 ≤ a.1 (t + 1) r ∧ a.1 (t + 1) r ≤ 100000000) (ha : ∀ c, c < 9 → 0 ≤ a.1 (t + 4) (9 * r + c) ∧ a.1 (t + 4) (9 * r + c) ≤ 1000000) (hw : sg (fun c => a.1 (t + 4) (9 * r + c)) 9 = W) : gm_70_57 k t r a = k t ((r : Int) + 1) (cr (gw1 a (t + 2) r W) t r W 9) := by
  have w0 : 0 ≤ W := by rw [← hw]; exact sg_nn fun c hc => (ha c hc).1
  have w1 : W ≤ 9000000 := by
    have := sg_le (f := fun c => a.1 (t + 4) (9 * r + c)) (g := fun _ => 1000000) (n := 9) fun c hc => (ha c hc).2
    rw [hw] at this
    exact this
  have o : ∀ k j, k ≠ t + 2 → (gw1 a (t + 2) r W).1 k j = a.1 k j := fun k j h => by rw [gw1_1, if_neg (fun x => h x.1)]
  have e := sp_71 (s := gw1 a (t + 2) r W) (W := W) ht hr (by rw [o _ _ (by omega)]; exact hp) (fun c hc => by rw [o _ _ (by omega)]; exact ha c hc) (by omega)
  have x : (gw1 a (t + 2) r W).1 (t + 2) r = W := by rw [gw1_1, if_pos ⟨rfl, rfl⟩]
  unfold gm_70_57
  rw [sp_72 (ga_7_3 ht) hr, hw, Option.bind_some, show ((r : Int)).toNat = r by omega]
  simp (disch := omega) only [if_pos, x, e, Option.bind_some]
/-- whether a row has no weight -/
def pl (s : gx_S) (t r : Nat) : Int := if sg (fun c => s.1 (t + 4) (9 * r + c)) 9 = 0 then 1 else 0
theorem sl_70 {s : gx_S} {t r : Nat} (n : Nat) (ht : fx_oc t 7 = true) (hr : r < 8) (hp : 0 ≤ s.1 (t + 1) r ∧ s.1 (t + 1) r ≤ 100000000) (ha : ∀ c, c < 9 → (0 ≤ s.1 (t + 4) (9 * r + c) ∧ s.1 (t + 4) (9 * r + c) ≤ 1000000) ∧ (0 ≤ s.1 (t + 5) (9 * r + c) ∧ s.1 (t + 5) (9 * r + c) ≤ 1000000)) : ∃ u : gx_S, gm_70_2 (n + 1) t r s = gm_70_2 n t ((r : Int) + 1) u ∧ u.2 = s.2 ∧ u.1 (t + 2) r = aw s t r ∧ (∀ c, c < 9 → u.1 (t + 4) (9 * r + c) = am s t r c ∧ u.1 (t + 6) (9 * r + c) = af s t r c ∧ u.1 (t + 7) (9 * r + c) = ar s t r c ∧ u.1 (t + 8) (9 * r + c) = af s t r c) ∧ (∀ k j, ¬ (k = t + 2 ∧ j = r) → ¬ (k = t + 3 ∧ j = r) → ¬ ((k = t + 4 ∨ k = t + 6 ∨ k = t + 7 ∨ k = t + 8) ∧ 9 * r ≤ j ∧ j < 9 * r + 9) → u.1 k j = s.1 k j) ∧ u.1 (t + 3) r = pl s t r := by
  have w0 : 0 ≤ sg (fun c => s.1 (t + 4) (9 * r + c)) 9 := sg_nn fun c hc => (ha c hc).1.1
  have w1 : sg (fun c => s.1 (t + 4) (9 * r + c)) 9 ≤ 9000000 := sg_le (f := fun c => s.1 (t + 4) (9 * r + c)) (g := fun _ => 1000000) (n := 9) fun c hc => (ha c hc).1.2
  have i5 : ((r : Int)).toNat = r := by omega
  have i9 : ((r : Int) * 9).toNat = 9 * r := by omega
  obtain ⟨p3, l3⟩ := gx_a_p (ga_7_2 ht)
  have l3' : ((fx_sh (t + 3)).2 : Int) = 8 := by rw [l3]; rfl
  obtain ⟨a, a1, a2, a3, a5, a4⟩ : ∃ a : gx_S, gm_70_2 (n + 1) t r s = gm_70_57 (gm_70_2 n) t r a ∧ a.2 = s.2 ∧ (∀ c, c < 9 → a.1 (t + 4) (9 * r + c) = am s t r c) ∧ a.1 (t + 3) r = pl s t r ∧ ∀ k j, ¬ (k = t + 3 ∧ j = r) → ¬ (k = t + 4 ∧ 9 * r ≤ j ∧ j < 9 * r + 9) → a.1 k j = s.1 k j := by
    rw [gm_70_2, sp_72 (ga_7_3 ht) hr]
    by_cases z : sg (fun c => s.1 (t + 4) (9 * r + c)) 9 = 0
    · refine ⟨gcp (gw1 s (t + 3) r 1) (t + 5) (9 * r) (t + 4) (9 * r) 9, ?_, rfl, fun c hc => ?_, ?_, fun k j h1 h2 => ?_⟩
      · rw [z]
        simp (disch := first | omega | assumption) only [if_pos, if_neg, Option.bind_some, gm_70_31, l3', i5, i9]
        exact if_neg fun h => h trivial
      · show (if _ then _ else _) = am s t r c
        rw [if_pos (by omega), gw1_1, if_neg (by omega), show 9 * r + (9 * r + c - 9 * r) = 9 * r + c by omega]
        exact (if_pos z).symm
      · show (if t + 3 = t + 4 ∧ _ then _ else (gw1 s (t + 3) r 1).1 (t + 3) r) = pl s t r
        rw [if_neg (by omega), gw1_1, if_pos ⟨rfl, rfl⟩]
        exact (if_pos z).symm
      · show (if _ then _ else _) = s.1 k j
        rw [if_neg h2, gw1_1, if_neg h1]
    · refine ⟨gw1 s (t + 3) r 0, ?_, rfl, fun c hc => ?_, ?_, fun k j h1 h2 => ?_⟩
      · generalize sg (fun c => s.1 (t + 4) (9 * r + c)) 9 = W at *
        simp (disch := first | omega | assumption) only [if_pos, if_neg, Option.bind_some, gm_70_31, l3', i5, i9]
      · rw [gw1_1, if_neg (by omega)]
        exact (if_neg z).symm
      · rw [gw1_1, if_pos ⟨rfl, rfl⟩]
        exact (if_neg z).symm
      · rw [gw1_1, if_neg h1]
  have haw : sg (fun c => a.1 (t + 4) (9 * r + c)) 9 = aw s t r := sg_eq fun c hc => a3 c hc
  have ap : a.1 (t + 1) r = s.1 (t + 1) r := a4 _ _ (by omega) (by omega)
  have e := sl_70b (a := a) (W := aw s t r) (gm_70_2 n) ht hr (by rw [ap]; exact hp) (fun c hc => by
    rw [a3 c hc]
    unfold am
    have := ha c hc
    split <;> omega) haw
  have b1 : (gw1 a (t + 2) r (aw s t r)).1 (t + 1) r = s.1 (t + 1) r := by rw [gw1_1, if_neg (by omega), ap]
  have b4 : ∀ c, c < 9 → (gw1 a (t + 2) r (aw s t r)).1 (t + 4) (9 * r + c) = am s t r c := fun c hc => by rw [gw1_1, if_neg (by omega), a3 c hc]
  have f : ∀ c, c < 9 → fl (gw1 a (t + 2) r (aw s t r)) t r (aw s t r) (9 * r + c) = af s t r c := fun c hc => by
    unfold fl af
    rw [b1, b4 c hc]
  have g : ∀ c, c < 9 → rs (gw1 a (t + 2) r (aw s t r)) t r (aw s t r) (9 * r + c) = ar s t r c := fun c hc => by
    unfold rs ar
    rw [b1, b4 c hc]
  refine ⟨_, a1.trans e, a2, ?_, fun c hc => ⟨?_, ?_, ?_, ?_⟩, fun k j h1 h2 h3 => ?_, ?_⟩
  · show (if _ then _ else if _ then _ else if _ then _ else _) = aw s t r
    rw [if_neg (by omega), if_neg (by omega), if_neg (by omega), gw1_1, if_pos ⟨rfl, rfl⟩]
  · show (if _ then _ else if _ then _ else if _ then _ else _) = am s t r c
    rw [if_neg (by omega), if_neg (by omega), if_neg (by omega), b4 c hc]
  · show (if _ then _ else if _ then _ else if _ then _ else _) = af s t r c
    rw [if_pos (by omega), f c hc]
  · show (if _ then _ else if _ then _ else if _ then _ else _) = ar s t r c
    rw [if_neg (by omega), if_pos (by omega), g c hc]
  · show (if _ then _ else if _ then _ else if _ then _ else _) = af s t r c
    rw [if_neg (by omega), if_neg (by omega), if_pos (by omega), f c hc]
  · show (if _ then _ else if _ then _ else if _ then _ else _) = s.1 k j
    rw [if_neg (by omega), if_neg (by omega), if_neg (by omega), gw1_1, if_neg h1, a4 k j h2 (by omega)]
  · show (if _ then _ else if _ then _ else if _ then _ else _) = pl s t r
    rw [if_neg (by omega), if_neg (by omega), if_neg (by omega), gw1_1, if_neg (by omega), a5]
end
section
/-! THE CLASS's TABLE: cut, all rows -/
theorem am_c {s v : gx_S} {t r : Nat} (h4 : ∀ c, c < 9 → v.1 (t + 4) (9 * r + c) = s.1 (t + 4) (9 * r + c)) (h5 : ∀ c, c < 9 → v.1 (t + 5) (9 * r + c) = s.1 (t + 5) (9 * r + c)) {c : Nat} (hc : c < 9) : am v t r c = am s t r c := by
  unfold am
  rw [sg_eq (f := fun c => v.1 (t + 4) (9 * r + c)) (g := fun c => s.1 (t + 4) (9 * r + c)) h4, h4 c hc, h5 c hc]
theorem aw_c {s v : gx_S} {t r : Nat} (h4 : ∀ c, c < 9 → v.1 (t + 4) (9 * r + c) = s.1 (t + 4) (9 * r + c)) (h5 : ∀ c, c < 9 → v.1 (t + 5) (9 * r + c) = s.1 (t + 5) (9 * r + c)) : aw v t r = aw s t r := sg_eq fun _ hc => am_c h4 h5 hc
theorem af_c {s v : gx_S} {t r : Nat} (h1 : v.1 (t + 1) r = s.1 (t + 1) r) (h4 : ∀ c, c < 9 → v.1 (t + 4) (9 * r + c) = s.1 (t + 4) (9 * r + c)) (h5 : ∀ c, c < 9 → v.1 (t + 5) (9 * r + c) = s.1 (t + 5) (9 * r + c)) {c : Nat} (hc : c < 9) : af v t r c = af s t r c ∧ ar v t r c = ar s t r c := by
  unfold af ar
  rw [aw_c h4 h5, am_c h4 h5 hc, h1]
  exact ⟨rfl, rfl⟩
theorem sl_70n {t : Nat} (ht : fx_oc t 7 = true) : ∀ (n j : Nat) (s : gx_S), (∀ r, r < 8 → (0 ≤ s.1 (t + 1) r ∧ s.1 (t + 1) r ≤ 100000000) ∧ (j ≤ r → ∀ c, c < 9 → (0 ≤ s.1 (t + 4) (9 * r + c) ∧ s.1 (t + 4) (9 * r + c) ≤ 1000000) ∧ (0 ≤ s.1 (t + 5) (9 * r + c) ∧ s.1 (t + 5) (9 * r + c) ≤ 1000000))) → j ≤ 8 → 8 < n + j → ∃ u : gx_S, gm_70_2 n t j s = some u ∧ u.2 = s.2 ∧ (∀ r, j ≤ r → r < 8 → u.1 (t + 2) r = aw s t r ∧ ∀ c, c < 9 → u.1 (t + 4) (9 * r + c) = am s t r c ∧ u.1 (t + 6) (9 * r + c) = af s t r c ∧ u.1 (t + 7) (9 * r + c) = ar s t r c ∧ u.1 (t + 8) (9 * r + c) = af s t r c) ∧ (∀ k i, ¬ ((k = t + 2 ∨ k = t + 3) ∧ j ≤ i ∧ i < 8) → ¬ ((k = t + 4 ∨ k = t + 6 ∨ k = t + 7 ∨ k = t + 8) ∧ 9 * j ≤ i ∧ i < 72) → u.1 k i = s.1 k i) ∧ ∀ r, j ≤ r → r < 8 → u.1 (t + 3) r = pl s t r := by
  intro n
  induction n with
  | zero => intro j s h hj hn; omega
  | succ n ih =>
    intro j s h hj hn
    by_cases q : j = 8
    · subst q
      refine ⟨s, ?_, rfl, fun r h1 h2 => by omega, fun _ _ _ _ => rfl, fun r h1 h2 => by omega⟩
      rw [gm_70_2]
      simp (disch := omega) only [if_pos]
    · have hj' := h j (by omega)
      obtain ⟨v, v1, v2, v3, v4, v5, v6⟩ := sl_70 n ht (by omega) hj'.1 (hj'.2 (Nat.le_refl j))
      have z1 : ∀ r, v.1 (t + 1) r = s.1 (t + 1) r := fun r => v5 _ _ (by omega) (by omega) (by omega)
      have z5 : ∀ r, v.1 (t + 5) r = s.1 (t + 5) r := fun r => v5 _ _ (by omega) (by omega) (by omega)
      have z4 : ∀ r c, j < r → c < 9 → v.1 (t + 4) (9 * r + c) = s.1 (t + 4) (9 * r + c) := fun r c hr hc => v5 _ _ (by omega) (by omega) (by omega)
      obtain ⟨u, u1, u2, u3, u4, u5⟩ := ih (j + 1) v (fun r hr => ⟨by rw [z1]; exact (h r hr).1, fun hjr c hc => by
        rw [z5, z4 r c (by omega) hc]
        exact (h r hr).2 (by omega) c hc⟩) (by omega) (by omega)
      have i3 : ((j : Int) + 1) = ((j + 1 : Nat) : Int) := by omega
      refine ⟨u, by rw [v1, i3]; exact u1, u2.trans v2, fun r h1 h2 => ?_, fun k i h1 h2 => (u4 k i (by omega) (by omega)).trans (v5 k i (by omega) (by omega) (by omega)), fun r h1 h2 => ?_⟩
      rotate_left
      · by_cases e : r = j
        · rw [e]
          exact (u4 _ _ (by omega) (by omega)).trans v6
        · rw [u5 r (by omega) h2]
          unfold pl
          rw [sg_eq (f := fun c => v.1 (t + 4) (9 * r + c)) (g := fun c => s.1 (t + 4) (9 * r + c)) fun c hc => z4 r c (by omega) hc]
      by_cases e : r = j
      · subst e
        refine ⟨(u4 _ _ (by omega) (by omega)).trans v3, fun c hc => ?_⟩
        obtain ⟨w1, w2, w3, w4⟩ := v4 c hc
        exact ⟨(u4 _ _ (by omega) (by omega)).trans w1, (u4 _ _ (by omega) (by omega)).trans w2, (u4 _ _ (by omega) (by omega)).trans w3, (u4 _ _ (by omega) (by omega)).trans w4⟩
      · have y4 : ∀ c, c < 9 → v.1 (t + 4) (9 * r + c) = s.1 (t + 4) (9 * r + c) := fun c hc => z4 r c (by omega) hc
        have y5 : ∀ c, c < 9 → v.1 (t + 5) (9 * r + c) = s.1 (t + 5) (9 * r + c) := fun c _ => z5 _
        obtain ⟨w1, w2⟩ := u3 r (by omega) h2
        refine ⟨w1.trans (aw_c y4 y5), fun c hc => ?_⟩
        obtain ⟨x1, x2, x3, x4⟩ := w2 c hc
        have f := af_c (z1 r) y4 y5 hc
        exact ⟨x1.trans (am_c y4 y5 hc), x2.trans f.1, x3.trans f.2, x4.trans f.1⟩
/-- a table as it is filled: people, weights, cells -/
def tf (s : gx_S) (t : Nat) : Prop := (∀ r, r < 8 → (0 ≤ s.1 (t + 1) r ∧ s.1 (t + 1) r ≤ 100000000) ∧ ∀ c, c < 9 → (0 ≤ s.1 (t + 4) (9 * r + c) ∧ s.1 (t + 4) (9 * r + c) ≤ 1000000) ∧ (0 ≤ s.1 (t + 5) (9 * r + c) ∧ s.1 (t + 5) (9 * r + c) ≤ 1000000)) ∧ sg (aw s t) 8 ≤ 1000000
theorem aw_r {s : gx_S} {t r : Nat} (h : tf s t) (hr : r < 8) : 0 ≤ aw s t r ∧ aw s t r ≤ 1000000 ∧ ∀ c, c < 9 → 0 ≤ am s t r c := by
  have m : ∀ r, r < 8 → ∀ c, c < 9 → 0 ≤ am s t r c := fun r hr c hc => by
    have := (h.1 r hr).2 c hc
    unfold am
    split <;> omega
  have n : ∀ r, r < 8 → 0 ≤ aw s t r := fun r hr => sg_nn fun c hc => m r hr c hc
  have a := sg_at (f := aw s t) n r hr
  have b := h.2
  exact ⟨n r hr, by omega, m r hr⟩
/-- cut: what it leaves -/
theorem sp_70 {s : gx_S} {t : Nat} (ht : fx_oc t 7 = true) (h : tf s t) : ∃ u : gx_S, gm_70 t s = some u ∧ u.2 = s.2 ∧ rv u t ∧ (∀ r, r < 8 → u.1 (t + 2) r = aw s t r ∧ lo u t r = (if aw s t r ≤ 0 then 0 else s.1 (t + 1) r - sg (fun c => af s t r c) 9) ∧ ∀ c, c < 9 → u.1 (t + 4) (9 * r + c) = am s t r c ∧ u.1 (t + 6) (9 * r + c) = af s t r c ∧ u.1 (t + 7) (9 * r + c) = ar s t r c ∧ u.1 (t + 8) (9 * r + c) = af s t r c) ∧ (∀ k i, ¬ ((k = t + 2 ∨ k = t + 3) ∧ i < 8) → ¬ ((k = t + 4 ∨ k = t + 6 ∨ k = t + 7 ∨ k = t + 8) ∧ i < 72) → u.1 k i = s.1 k i) ∧ ∀ r, r < 8 → u.1 (t + 3) r = pl s t r := by
  obtain ⟨u, u1, u2, u3, u4, u5⟩ := sl_70n ht 100000 0 s (fun r hr => ⟨(h.1 r hr).1, fun _ => (h.1 r hr).2⟩) (by omega) (by omega)
  have p1 : ∀ r, u.1 (t + 1) r = s.1 (t + 1) r := fun r => u4 _ _ (by omega) (by omega)
  have lw : ∀ r, r < 8 → lo u t r = (if aw s t r ≤ 0 then 0 else s.1 (t + 1) r - sg (fun c => af s t r c) 9) := fun r hr => by
    obtain ⟨w1, w2⟩ := u3 r (by omega) hr
    unfold lo
    rw [w1, p1, sg_eq (f := fun c => u.1 (t + 6) (9 * r + c)) (g := fun c => af s t r c) fun c hc => (w2 c hc).2.1]
  refine ⟨u, ?_, u2, ⟨⟨fun k hk => ?_, ?_, fun r c hr hc => ?_⟩, fun r hr => ⟨fun h0 c hc => ?_, ?_⟩⟩, fun r hr => ⟨(u3 r (by omega) hr).1, lw r hr, (u3 r (by omega) hr).2⟩, fun k i h1 h2 => u4 k i (by omega) (by omega), fun r hr => u5 r (by omega) hr⟩
  · unfold gm_70
    rw [if_pos ht]
    exact u1
  · rw [(u3 k (by omega) hk).1]
    have := aw_r h hk
    omega
  · rw [sg_eq (g := aw s t) fun r hr => (u3 r (by omega) hr).1]
    exact h.2
  · obtain ⟨w1, w2⟩ := u3 r (by omega) hr
    rw [w1, (w2 c hc).2.2.1]
    have a := aw_r h hr
    unfold ar
    by_cases z : aw s t r ≤ 0
    · rw [if_pos z]
      omega
    · rw [if_neg z]
      have m0 := Int.emod_nonneg (s.1 (t + 1) r * am s t r c) (b := aw s t r) (by omega)
      have m1 := Int.emod_lt_of_pos (s.1 (t + 1) r * am s t r c) (b := aw s t r) (by omega)
      omega
  · obtain ⟨w1, w2⟩ := u3 r (by omega) hr
    rw [w1] at h0
    rw [(w2 c hc).2.2.1]
    exact if_pos (by omega)
  · obtain ⟨w1, w2⟩ := u3 r (by omega) hr
    have a := aw_r h hr
    rw [w1, lw r hr, sg_eq (f := fun c => u.1 (t + 7) (9 * r + c)) (g := fun c => ar s t r c) fun c hc => (w2 c hc).2.2.1]
    by_cases z : aw s t r ≤ 0
    · rw [if_pos z, sg_0 (f := fun c => ar s t r c) fun c _ => if_pos z]
      omega
    · rw [if_neg z]
      have e := sg_eq (f := fun c => ar s t r c) (g := fun c => s.1 (t + 1) r * am s t r c + (- aw s t r) * af s t r c) (n := 9) fun c _ => by
        show ar s t r c = s.1 (t + 1) r * am s t r c + (- aw s t r) * af s t r c
        have d := Int.mul_ediv_add_emod (s.1 (t + 1) r * am s t r c) (aw s t r)
        rw [Int.neg_mul]
        unfold ar af
        rw [if_neg z, if_neg z]
        omega
      rw [e, sg_add, sg_mul, sg_mul, Int.neg_mul, Int.sub_mul, Int.mul_comm (aw s t r)]
      show s.1 (t + 1) r * aw s t r + _ = _
      exact Int.sub_eq_add_neg.symm
end
section
/-! THE CLASS's TABLE: giveByRests, round -/
theorem gc1_j (s : gx_S) (t r j : Nat) (h : ¬ (9 * r ≤ j ∧ j < 9 * r + 9)) : (gc1 s t r).1 (t + 8) j = s.1 (t + 8) j := by
  unfold gc1
  have b := bst_r (vc s t r) 9
  split
  · rfl
  · rw [gw1_1, if_neg (by omega)]
theorem gc1_c {s v : gx_S} {t r : Nat} (h6 : ∀ c, c < 9 → v.1 (t + 6) (9 * r + c) = s.1 (t + 6) (9 * r + c)) (h7 : ∀ c, c < 9 → v.1 (t + 7) (9 * r + c) = s.1 (t + 7) (9 * r + c)) (h8 : ∀ c, c < 9 → v.1 (t + 8) (9 * r + c) = s.1 (t + 8) (9 * r + c)) : ∀ c, c < 9 → (gc1 v t r).1 (t + 8) (9 * r + c) = (gc1 s t r).1 (t + 8) (9 * r + c) := by
  intro c hc
  have e : bst (vc v t r) 9 = bst (vc s t r) 9 := bst_eq fun c hc => by
    unfold vc
    rw [h6 c hc, h7 c hc, h8 c hc]
  have b := bst_r (vc s t r) 9
  unfold gc1
  rw [e]
  split
  · exact h8 c hc
  · rw [gw1_1, gw1_1, h8 c hc, h8 _ (by omega)]
theorem gcn_o (t r : Nat) : ∀ (n : Nat) (s : gx_S) (k j : Nat), k ≠ t + 8 → (gcn s t r n).1 k j = s.1 k j
  | 0, _, _, _, _ => rfl
  | n + 1, s, k, j, h => (gcn_o t r n (gc1 s t r) k j h).trans (gc1_o s t r k j h)
theorem gcn_2 (t r : Nat) : ∀ (n : Nat) (s : gx_S), (gcn s t r n).2 = s.2
  | 0, _ => rfl
  | n + 1, s => (gcn_2 t r n (gc1 s t r)).trans (gc1_2 s t r)
theorem gcn_j (t r : Nat) : ∀ (n : Nat) (s : gx_S) (j : Nat), ¬ (9 * r ≤ j ∧ j < 9 * r + 9) → (gcn s t r n).1 (t + 8) j = s.1 (t + 8) j
  | 0, _, _, _ => rfl
  | n + 1, s, j, h => (gcn_j t r n (gc1 s t r) j h).trans (gc1_j s t r j h)
theorem gcn_c {t r : Nat} : ∀ (n : Nat) {s v : gx_S}, (∀ c, c < 9 → v.1 (t + 6) (9 * r + c) = s.1 (t + 6) (9 * r + c)) → (∀ c, c < 9 → v.1 (t + 7) (9 * r + c) = s.1 (t + 7) (9 * r + c)) → (∀ c, c < 9 → v.1 (t + 8) (9 * r + c) = s.1 (t + 8) (9 * r + c)) → ∀ c, c < 9 → (gcn v t r n).1 (t + 8) (9 * r + c) = (gcn s t r n).1 (t + 8) (9 * r + c)
  | 0, _, _, _, _, h8 => h8
  | n + 1, s, v, h6, h7, h8 => gcn_c n (fun c hc => by rw [gc1_o v t r _ _ (by omega), gc1_o s t r _ _ (by omega)]; exact h6 c hc) (fun c hc => by rw [gc1_o v t r _ _ (by omega), gc1_o s t r _ _ (by omega)]; exact h7 c hc) (gc1_c h6 h7 h8)
theorem sl_74n {t : Nat} (ht : fx_oc t 7 = true) : ∀ (n j : Nat) (s : gx_S), (∀ r, r < 8 → i32 (s.1 (t + 2) r) ∧ 0 ≤ lo s t r ∧ lo s t r ≤ 9 ∧ (j ≤ r → rg s t r 100000000)) → j ≤ 8 → 8 < n + j → ∃ u : gx_S, gm_74_2 n t j s = some u ∧ u.2 = s.2 ∧ (∀ r c, j ≤ r → r < 8 → c < 9 → u.1 (t + 8) (9 * r + c) = (gcn s t r (lo s t r).toNat).1 (t + 8) (9 * r + c)) ∧ (∀ k i, k ≠ t + 8 → u.1 k i = s.1 k i) ∧ ∀ i, i < 9 * j ∨ 72 ≤ i → u.1 (t + 8) i = s.1 (t + 8) i := by
  intro n
  induction n with
  | zero => intro j s h hj hn; omega
  | succ n ih =>
    intro j s h hj hn
    by_cases q : j = 8
    · subst q
      refine ⟨s, ?_, rfl, fun r c h1 h2 => by omega, fun _ _ _ => rfl, fun _ _ => rfl⟩
      rw [gm_74_2]
      simp (disch := omega) only [if_pos]
    · obtain ⟨g1, g2, g3, g4⟩ := h j (by omega)
      obtain ⟨w, hw⟩ : ∃ w : Nat, lo s t j = w := ⟨(lo s t j).toNat, by omega⟩
      have e73 : gm_73 t j s = some ((w : Int), s) := by rw [sp_73 ht (by omega) g1, ← hw]; rfl
      have e74 := sl_74 (gm_74_2 n) ht (r := j) (by omega) w 100000 0 s 100000000 (by omega) (by omega) (g4 (Nat.le_refl j)) (by omega)
      have o := gcn_o t j w s
      have lo' : ∀ r, lo (gcn s t j w) t r = lo s t r := fun r => by
        unfold lo
        simp only [o (t + 2) _ (by omega), o (t + 1) _ (by omega), o (t + 6) _ (by omega)]
      obtain ⟨u, u1, u2, u3, u4, u5⟩ := ih (j + 1) (gcn s t j w) (fun r hr => by
        rw [o _ _ (by omega), lo']
        refine ⟨(h r hr).1, (h r hr).2.1, (h r hr).2.2.1, fun hjr c hc => ?_⟩
        rw [o (t + 7) _ (by omega), o (t + 6) _ (by omega), gcn_j t j w s _ (by omega)]
        exact (h r hr).2.2.2 (by omega) c hc) (by omega) (by omega)
      have i3 : ((j : Int) + 1) = ((j + 1 : Nat) : Int) := by omega
      refine ⟨u, ?_, u2.trans (gcn_2 t j w s), fun r c h1 h2 hc => ?_, fun k i hk => (u4 k i hk).trans (o k i hk), fun i hi => (u5 i (by omega)).trans (gcn_j t j w s i (by omega))⟩
      · rw [gm_74_2, e73, Option.bind_some]
        rw [Nat.add_zero] at e74
        rw [i3] at e74
        simp (disch := omega) only [if_pos, if_neg]
        exact e74.trans u1
      · by_cases e : r = j
        · subst e
          rw [u5 _ (by omega), hw]
          rfl
        · rw [u3 r c (by omega) h2 hc, lo']
          exact gcn_c _ (fun c _ => o _ _ (by omega)) (fun c _ => o _ _ (by omega)) (fun c hc => gcn_j t j w s _ (by omega)) c hc
theorem sp_74 {s : gx_S} {t : Nat} (ht : fx_oc t 7 = true) (h : ∀ r, r < 8 → i32 (s.1 (t + 2) r) ∧ 0 ≤ lo s t r ∧ lo s t r ≤ 9 ∧ rg s t r 100000000) : ∃ u : gx_S, gm_74 t s = some u ∧ u.2 = s.2 ∧ (∀ r c, r < 8 → c < 9 → u.1 (t + 8) (9 * r + c) = (gcn s t r (lo s t r).toNat).1 (t + 8) (9 * r + c)) ∧ (∀ k i, k ≠ t + 8 → u.1 k i = s.1 k i) ∧ ∀ i, 72 ≤ i → u.1 (t + 8) i = s.1 (t + 8) i := by
  obtain ⟨u, u1, u2, u3, u4, u5⟩ := sl_74n ht 100000 0 s (fun r hr => ⟨(h r hr).1, (h r hr).2.1, (h r hr).2.2.1, fun _ => (h r hr).2.2.2⟩) (by omega) (by omega)
  refine ⟨u, ?_, u2, fun r c hr hc => u3 r c (by omega) hr hc, u4, fun i hi => u5 i (.inr hi)⟩
  unfold gm_74
  rw [if_pos ht]
  exact u1
end
section
/-! THE CLASS's TABLE: round -/
theorem af_r {s : gx_S} {t r c : Nat} (h : tf s t) (hr : r < 8) (hc : c < 9) : 0 ≤ af s t r c ∧ af s t r c ≤ 100000000 := by
  have a := aw_r h hr
  have p := (h.1 r hr).1
  have m := a.2.2 c hc
  have w : am s t r c ≤ aw s t r := sg_at (f := fun c => am s t r c) (n := 9) (fun c hc => a.2.2 c hc) c hc
  unfold af
  by_cases z : aw s t r ≤ 0
  · rw [if_pos z]
    omega
  · rw [if_neg z]
    refine ⟨Int.ediv_nonneg (Int.mul_nonneg p.1 m) (by omega), Int.le_trans (Int.ediv_le_of_le_mul (by omega) (Int.mul_le_mul_of_nonneg_left w p.1)) p.2⟩
theorem sp_41_0 {s : gx_S} {t : Nat} (ht : fx_oc t 7 = true) (h : tf s t) : ∃ v u : gx_S, gm_70 t s = some v ∧ gm_41 t 0 s = some u ∧ u.2 = v.2 ∧ (∀ r c, r < 8 → c < 9 → u.1 (t + 8) (9 * r + c) = (gcn v t r (lo v t r).toNat).1 (t + 8) (9 * r + c)) ∧ (∀ k i, k ≠ t + 8 → u.1 k i = v.1 k i) ∧ ∀ i, 72 ≤ i → u.1 (t + 8) i = v.1 (t + 8) i := by
  obtain ⟨v, v1, v2, v3, v4, v5, _⟩ := sp_70 ht h
  obtain ⟨u, u1, u2, u3, u4, u5⟩ := sp_74 (s := v) ht (fun r hr => by
    obtain ⟨w1, w2, w3⟩ := v4 r hr
    have a := aw_r h hr
    have l := lo_r v3 hr
    refine ⟨by rw [w1]; unfold i32; omega, l.1, l.2, fun c hc => ?_⟩
    obtain ⟨x1, x2, x3, x4⟩ := w3 c hc
    have f := af_r h hr hc
    have g := v3.1.2.2 r c hr hc
    rw [x2, x4]
    rw [w1] at g
    omega)
  refine ⟨v, u, v1, ?_, u2, u3, u4, u5⟩
  unfold gm_41
  rw [if_pos ht, v1, Option.bind_some, u1]
  simp (disch := omega) only [if_pos, if_neg, Option.bind_some]
  exact if_neg fun h => h trivial
theorem sp_41_1 {s : gx_S} {t : Nat} (ht : fx_oc t 7 = true) (h : tf s t) (h8 : sg (aw s t) 8 ≤ 864) : ∃ v u : gx_S, gm_70 t s = some v ∧ gm_41 t 1 s = some u ∧ LG (ls v t) (ms v t) (fr v t) (lo v t) (u.1 8) ∧ scg t v u ∧ (∀ j, j < 72 → u.1 (t + 8) j = v.1 (t + 6) j + u.1 8 j) ∧ ∀ j, 72 ≤ j → u.1 (t + 8) j = v.1 (t + 8) j := by
  obtain ⟨v, v1, v2, v3, v4, v5, _⟩ := sp_70 ht h
  obtain ⟨u, u1, u2⟩ := sp_41b ht v3 (by rw [sg_eq (g := aw s t) fun r hr => (v4 r hr).1]; exact h8)
  refine ⟨v, u, v1, ?_, u2⟩
  unfold gm_41
  rw [if_pos ht, v1, Option.bind_some, if_pos (by omega), if_pos (by omega)]
  exact u1
end
section
/-! THE REFERENCE's BALANCED TABLE: the steps of finds and makesPlace -/
def RK (s : gx_S) (R m : Nat) : Prop := (∀ j, j < 72 → (s.1 232 j = 0 ∨ s.1 232 j = 1) ∧ (s.1 233 j = 0 ∨ s.1 233 j = 1) ∧ (0 ≤ s.2 225 j ∧ s.2 225 j ≤ 1000000000) ∧ (s.1 232 j = 1 → ((j / 9 : Nat) : Int) < s.1 215 17 → ((j % 9 : Nat) : Int) < s.1 215 18 → 0 < s.2 225 j)) ∧ (∀ c, c < 9 → (s.1 235 c = 0 ∨ s.1 235 c = 1) ∧ -900 ≤ s.2 229 c ∧ s.2 229 c ≤ 900 ∧ -1000 ≤ s.2 230 c ∧ s.2 230 c ≤ 1000) ∧ s.1 215 17 = R ∧ s.1 215 18 = m ∧ R ≤ 8 ∧ m ≤ 9
theorem sp_167 {s : gx_S} {r c : Nat} (hr : r < 8) (hc : c < 9) (h : 0 ≤ s.2 225 (9 * r + c) ∧ s.2 225 (9 * r + c) ≤ 1000000000) : gm_167 r c s = some (decide (0 < s.2 225 (9 * r + c)), s) := by
  unfold gm_167
  have i1 : ((9 * (r : Int) + (c : Int))).toNat = 9 * r + c := by omega
  rw [sp_160, Option.bind_some]
  simp only [i1]
  by_cases z : 0 < s.2 225 (9 * r + c)
  · simp (disch := omega) only [if_pos, if_neg]
    rw [decide_eq_true z]
  · simp (disch := omega) only [if_pos, if_neg]
    rw [decide_eq_false z]
/-- the entry may be used by the search -/
def can1 (s : gx_S) (r c : Nat) : Prop := 0 < s.2 225 (9 * r + c) ∧ s.1 233 (9 * r + c) = 0 ∧ s.1 232 (9 * r + c) = 0
/-- the entry is put on -/
def put (s : gx_S) (r c : Nat) : gx_S := gw2 (gw1 s 232 (9 * r + c) 1) 230 c (s.2 230 c + 1)
/-- the entry is put off -/
def off1 (s : gx_S) (r c : Nat) : gx_S := gw2 (gw1 s 232 (9 * r + c) 0) 230 c (s.2 230 c - 1)
theorem se_168_88 (k168 k169 : Int → gx_S → Option (Bool × gx_S)) {s : gx_S} {r c : Nat} (hr : r < 8) (hc : c < 9) : gm_168_88 k168 k169 r c s = some (true, put s r c) := by
  have i1 : ((9 * (r : Int) + (c : Int))).toNat = 9 * r + c := by omega
  have i5 : ((c : Int)).toNat = c := by omega
  unfold gm_168_88
  rw [sp_160, Option.bind_some]
  simp (disch := omega) only [i1, i5, if_pos]
  rfl
theorem se_168_skip (k168 k169 : Int → gx_S → Option (Bool × gx_S)) {s : gx_S} {R m r c : Nat} (n : Nat) (K : RK s R m) (hr : r < 8) (hc : c < m) (h : ¬ (can1 s r c ∧ s.1 235 c = 0)) : gm_168_2 k168 k169 (n + 1) r c s = gm_168_2 k168 k169 n r ((c : Int) + 1) s := by
  obtain ⟨k1, k2, k3, k4, k5, k6⟩ := K
  have i1 : ((9 * (r : Int) + (c : Int))).toNat = 9 * r + c := by omega
  have i5 : ((c : Int)).toNat = c := by omega
  obtain ⟨a1, a2, a3⟩ := k1 (9 * r + c) (by omega)
  obtain ⟨b1, b2⟩ := k2 c (by omega)
  have hx : (-2147483648 ≤ (c : Int) ∧ (c : Int) ≤ 2147483647) := by omega
  have hm : (-2147483648 ≤ (m : Int) ∧ (m : Int) ≤ 2147483647) := by omega
  have hn : ¬ (m : Int) ≤ (c : Int) := by omega
  have h72 : 0 ≤ 9 * (r : Int) + (c : Int) ∧ 9 * (r : Int) + (c : Int) < 72 := by omega
  have h3 : -2147483648 ≤ s.1 233 (9 * r + c) ∧ s.1 233 (9 * r + c) ≤ 2147483647 := by omega
  have h2 : -2147483648 ≤ s.1 232 (9 * r + c) ∧ s.1 232 (9 * r + c) ≤ 2147483647 := by omega
  have h5 : -2147483648 ≤ s.1 235 c ∧ s.1 235 c ≤ 2147483647 := by omega
  have h9 : 0 ≤ (c : Int) ∧ (c : Int) < 9 := by omega
  rw [gm_168_2, sp_167 hr (by omega) a3.1, k4, if_pos hx, if_pos hm, if_neg hn, Option.bind_some]
  unfold can1 at h
  by_cases z : 0 < s.2 225 (9 * r + c)
  · rw [decide_eq_true z, if_neg (show ¬ gb (true, s).1 = 0 from (by decide : ¬ gb true = 0))]
    rw [sp_160, Option.bind_some, if_pos h72]
    show (if (-2147483648 ≤ s.1 233 (9 * (r : Int) + (c : Int)).toNat ∧ s.1 233 (9 * (r : Int) + (c : Int)).toNat ≤ 2147483647) then _ else _) = _
    rw [i1, if_pos h3]
    by_cases z3 : s.1 233 (9 * r + c) = 0
    · rw [if_neg (fun x => x z3)]
      show ((gm_160 r c s).bind _) = _
      rw [sp_160, Option.bind_some, if_pos h72]
      show (if (-2147483648 ≤ s.1 232 (9 * (r : Int) + (c : Int)).toNat ∧ s.1 232 (9 * (r : Int) + (c : Int)).toNat ≤ 2147483647) then _ else _) = _
      rw [i1, if_pos h2]
      by_cases z2 : s.1 232 (9 * r + c) = 0
      · have z5 : ¬ s.1 235 c = 0 := fun x => h ⟨⟨z, z3, z2⟩, x⟩
        rw [if_neg (fun x => x z2), if_pos h9]
        show (if (-2147483648 ≤ s.1 235 (c : Int).toNat ∧ s.1 235 (c : Int).toNat ≤ 2147483647) then _ else _) = _
        rw [i5, if_pos h5, if_neg z5]
        rfl
      · rw [if_pos z2]
        rfl
    · rw [if_pos z3]
      rfl
  · rw [decide_eq_false z, if_pos (show gb (false, s).1 = 0 from (by decide : gb false = 0))]
    rfl
theorem se_168_use (k168 k169 : Int → gx_S → Option (Bool × gx_S)) {s : gx_S} {R m r c : Nat} (n : Nat) (K : RK s R m) (hr : r < 8) (hc : c < m) (h : can1 s r c) (h50 : s.1 235 c = 0) : gm_168_2 k168 k169 (n + 1) r c s = if s.2 230 c < s.2 229 c then some (true, put (gw1 s 235 c 1) r c) else (k169 c (gw1 s 235 c 1)).bind fun q => if q.1 = true then some (true, put q.2 r c) else gm_168_2 k168 k169 n r ((c : Int) + 1) q.2 := by
  obtain ⟨k1, k2, k3, k4, k5, k6⟩ := K
  have i1 : ((9 * (r : Int) + (c : Int))).toNat = 9 * r + c := by omega
  have i5 : ((c : Int)).toNat = c := by omega
  obtain ⟨a1, a2, a3⟩ := k1 (9 * r + c) (by omega)
  obtain ⟨b1, b2⟩ := k2 c (by omega)
  have hx : (-2147483648 ≤ (c : Int) ∧ (c : Int) ≤ 2147483647) := by omega
  have hm : (-2147483648 ≤ (m : Int) ∧ (m : Int) ≤ 2147483647) := by omega
  have hn : ¬ (m : Int) ≤ (c : Int) := by omega
  have h72 : 0 ≤ 9 * (r : Int) + (c : Int) ∧ 9 * (r : Int) + (c : Int) < 72 := by omega
  have h3 : -2147483648 ≤ s.1 233 (9 * r + c) ∧ s.1 233 (9 * r + c) ≤ 2147483647 := by omega
  have h2 : -2147483648 ≤ s.1 232 (9 * r + c) ∧ s.1 232 (9 * r + c) ≤ 2147483647 := by omega
  have h5 : -2147483648 ≤ s.1 235 c ∧ s.1 235 c ≤ 2147483647 := by omega
  have h0 : -9223372036854775808 ≤ s.2 230 c ∧ s.2 230 c ≤ 9223372036854775807 := by omega
  have hl : -9223372036854775808 ≤ s.2 229 c ∧ s.2 229 c ≤ 9223372036854775807 := by omega
  have h9 : 0 ≤ (c : Int) ∧ (c : Int) < 9 := by omega
  obtain ⟨z, z3, z2⟩ := h
  have g1 : gn2 1 = 1 := by decide
  rw [gm_168_2, sp_167 hr (by omega) a3.1, k4, if_pos hx, if_pos hm, if_neg hn, Option.bind_some]
  rw [decide_eq_true z, if_neg (show ¬ gb (true, s).1 = 0 from (by decide : ¬ gb true = 0))]
  rw [sp_160, Option.bind_some, if_pos h72]
  show (if (-2147483648 ≤ s.1 233 (9 * (r : Int) + (c : Int)).toNat ∧ s.1 233 (9 * (r : Int) + (c : Int)).toNat ≤ 2147483647) then _ else _) = _
  rw [i1, if_pos h3, if_neg (fun x => x z3)]
  show ((gm_160 r c s).bind _) = _
  rw [sp_160, Option.bind_some, if_pos h72]
  show (if (-2147483648 ≤ s.1 232 (9 * (r : Int) + (c : Int)).toNat ∧ s.1 232 (9 * (r : Int) + (c : Int)).toNat ≤ 2147483647) then _ else _) = _
  rw [i1, if_pos h2, if_neg (fun x => x z2), if_pos h9]
  show (if (-2147483648 ≤ s.1 235 (c : Int).toNat ∧ s.1 235 (c : Int).toNat ≤ 2147483647) then _ else _) = _
  rw [i5, if_pos h5, if_pos h50]
  show (if (-9223372036854775808 ≤ s.2 230 (c : Int).toNat ∧ s.2 230 (c : Int).toNat ≤ 9223372036854775807) then (if (-9223372036854775808 ≤ s.2 229 (c : Int).toNat ∧ s.2 229 (c : Int).toNat ≤ 9223372036854775807) then (if s.2 230 (c : Int).toNat < s.2 229 (c : Int).toNat then _ else _) else _) else _) = _
  rw [i5, if_pos h0, if_pos hl, g1]
  by_cases q : s.2 230 c < s.2 229 c
  · rw [if_pos q, if_pos q]
    exact se_168_88 k168 k169 hr (by omega)
  · rw [if_neg q, if_neg q]
    congr 1
    funext q
    cases q.1 with
    | true =>
      rw [if_neg (by decide), if_pos rfl, se_168_88 k168 k169 hr (by omega)]
    | false =>
      rw [if_pos (by decide), if_neg (by decide)]
      rfl
end
section
/-! THE REFERENCE's BALANCED TABLE: a step of makesPlace -/
theorem se_169_skip (k168 k169 : Int → gx_S → Option (Bool × gx_S)) {s : gx_S} {R m r c : Nat} (n : Nat) (K : RK s R m) (hr : r < R) (hc : c < 9) (h : s.1 232 (9 * r + c) = 0 ∨ ¬ s.1 233 (9 * r + c) = 0) : gm_169_2 k168 k169 (n + 1) c r s = gm_169_2 k168 k169 n c ((r : Int) + 1) s := by
  obtain ⟨k1, k2, k3, k4, k5, k6⟩ := K
  have i1 : ((9 * (r : Int) + (c : Int))).toNat = 9 * r + c := by omega
  obtain ⟨a1, a2, a3⟩ := k1 (9 * r + c) (by omega)
  have hx : (-2147483648 ≤ (r : Int) ∧ (r : Int) ≤ 2147483647) := by omega
  have hm : (-2147483648 ≤ (R : Int) ∧ (R : Int) ≤ 2147483647) := by omega
  have hn : ¬ (R : Int) ≤ (r : Int) := by omega
  have h72 : 0 ≤ 9 * (r : Int) + (c : Int) ∧ 9 * (r : Int) + (c : Int) < 72 := by omega
  have h3 : -2147483648 ≤ s.1 233 (9 * r + c) ∧ s.1 233 (9 * r + c) ≤ 2147483647 := by omega
  have h2 : -2147483648 ≤ s.1 232 (9 * r + c) ∧ s.1 232 (9 * r + c) ≤ 2147483647 := by omega
  rw [gm_169_2, k3, if_pos hx, if_pos hm, if_neg hn, sp_160, Option.bind_some, if_pos h72]
  show (if (-2147483648 ≤ s.1 232 (9 * (r : Int) + (c : Int)).toNat ∧ s.1 232 (9 * (r : Int) + (c : Int)).toNat ≤ 2147483647) then _ else _) = _
  rw [i1, if_pos h2]
  by_cases z2 : s.1 232 (9 * r + c) = 0
  · rw [if_pos z2]
    rfl
  · rw [if_neg z2]
    show ((gm_160 r c s).bind _) = _
    rw [sp_160, Option.bind_some, if_pos h72]
    show (if (-2147483648 ≤ s.1 233 (9 * (r : Int) + (c : Int)).toNat ∧ s.1 233 (9 * (r : Int) + (c : Int)).toNat ≤ 2147483647) then _ else _) = _
    have z3 : ¬ s.1 233 (9 * r + c) = 0 := h.resolve_left z2
    rw [i1, if_pos h3, if_pos z3]
    rfl
theorem se_169_use (k168 k169 : Int → gx_S → Option (Bool × gx_S)) {s : gx_S} {R m r c : Nat} (n : Nat) (K : RK s R m) (hr : r < R) (hc : c < 9) (z2 : ¬ s.1 232 (9 * r + c) = 0) (z3 : s.1 233 (9 * r + c) = 0) : gm_169_2 k168 k169 (n + 1) c r s = (k168 r s).bind fun q => if q.1 = true then some (true, off1 q.2 r c) else gm_169_2 k168 k169 n c ((r : Int) + 1) q.2 := by
  obtain ⟨k1, k2, k3, k4, k5, k6⟩ := K
  have i1 : ((9 * (r : Int) + (c : Int))).toNat = 9 * r + c := by omega
  have i5 : ((c : Int)).toNat = c := by omega
  obtain ⟨a1, a2, a3⟩ := k1 (9 * r + c) (by omega)
  have hx : (-2147483648 ≤ (r : Int) ∧ (r : Int) ≤ 2147483647) := by omega
  have hm : (-2147483648 ≤ (R : Int) ∧ (R : Int) ≤ 2147483647) := by omega
  have hn : ¬ (R : Int) ≤ (r : Int) := by omega
  have h72 : 0 ≤ 9 * (r : Int) + (c : Int) ∧ 9 * (r : Int) + (c : Int) < 72 := by omega
  have h3 : -2147483648 ≤ s.1 233 (9 * r + c) ∧ s.1 233 (9 * r + c) ≤ 2147483647 := by omega
  have h2 : -2147483648 ≤ s.1 232 (9 * r + c) ∧ s.1 232 (9 * r + c) ≤ 2147483647 := by omega
  have h9 : 0 ≤ (c : Int) ∧ (c : Int) < 9 := by omega
  have g0 : gn2 0 = 0 := by decide
  rw [gm_169_2, k3, if_pos hx, if_pos hm, if_neg hn, sp_160, Option.bind_some, if_pos h72]
  show (if (-2147483648 ≤ s.1 232 (9 * (r : Int) + (c : Int)).toNat ∧ s.1 232 (9 * (r : Int) + (c : Int)).toNat ≤ 2147483647) then _ else _) = _
  rw [i1, if_pos h2, if_neg z2]
  show ((gm_160 r c s).bind _) = _
  rw [sp_160, Option.bind_some, if_pos h72]
  show (if (-2147483648 ≤ s.1 233 (9 * (r : Int) + (c : Int)).toNat ∧ s.1 233 (9 * (r : Int) + (c : Int)).toNat ≤ 2147483647) then _ else _) = _
  rw [i1, if_pos h3, if_neg (fun x => x z3)]
  congr 1
  funext q
  cases q.1 with
  | true =>
    rw [if_neg (by decide), if_pos rfl, sp_160, Option.bind_some, if_pos h72, if_pos h9]
    show some (true, gw2 (gw1 q.2 232 (9 * (r : Int) + (c : Int)).toNat (gn2 0)) 230 (c : Int).toNat ((gw1 q.2 232 (9 * (r : Int) + (c : Int)).toNat (gn2 0)).2 230 (c : Int).toNat - 1)) = _
    rw [i1, i5, g0]
    rfl
  | false =>
    rw [if_pos (by decide), if_neg (by decide)]
    rfl
theorem se_168_end (k168 k169 : Int → gx_S → Option (Bool × gx_S)) {s : gx_S} {R m r : Nat} (n : Nat) (K : RK s R m) : gm_168_2 k168 k169 (n + 1) r m s = some (false, s) := by
  obtain ⟨k1, k2, k3, k4, k5, k6⟩ := K
  rw [gm_168_2, k4]
  simp (disch := omega) only [if_pos]
theorem se_169_end (k168 k169 : Int → gx_S → Option (Bool × gx_S)) {s : gx_S} {R m c : Nat} (n : Nat) (K : RK s R m) : gm_169_2 k168 k169 (n + 1) c R s = some (false, s) := by
  obtain ⟨k1, k2, k3, k4, k5, k6⟩ := K
  rw [gm_169_2, k3]
  simp (disch := omega) only [if_pos]
end
section
/-! THE REFERENCE's BALANCED TABLE: what finds and makesPlace do (s before, t after) -/
def or_ (s : gx_S) (r : Nat) : Int := sg (fun c => s.1 232 (9 * r + c)) 9
def oc_ (s : gx_S) (c : Nat) : Int := sg (fun r => s.1 232 (9 * r + c)) 8 - s.2 230 c
/-- the entry is free, not fixed, and of the table -/
def mv_ (s : gx_S) (j : Nat) : Prop := s.1 233 j = 0 ∧ 0 < s.2 225 j ∧ ((j / 9 : Nat) : Int) < s.1 215 17 ∧ ((j % 9 : Nat) : Int) < s.1 215 18
/-- only on, seen and filled change; seen grows; columns seen before and entries fixed or not free stay -/
def fo (s t : gx_S) : Prop := (∀ k j, k ≠ 232 → k ≠ 235 → t.1 k j = s.1 k j) ∧ (∀ k j, k ≠ 230 → t.2 k j = s.2 k j) ∧ (∀ c, c < 9 → s.1 235 c = 1 → t.1 235 c = 1 ∧ t.2 230 c = s.2 230 c ∧ ∀ r, r < 8 → t.1 232 (9 * r + c) = s.1 232 (9 * r + c)) ∧ ∀ j, j < 72 → t.1 232 j = s.1 232 j ∨ mv_ s j
/-- on and filled stay -/
def fs (s t : gx_S) : Prop := (∀ k j, k ≠ 235 → t.1 k j = s.1 k j) ∧ t.2 = s.2 ∧ ∀ c, c < 9 → s.1 235 c = 1 → t.1 235 c = 1
theorem fs_rf (s : gx_S) : fs s s := ⟨fun _ _ _ => rfl, rfl, fun _ _ h => h⟩
theorem fs_tr {s t u : gx_S} (a : fs s t) (b : fs t u) : fs s u := ⟨fun k j h => (b.1 k j h).trans (a.1 k j h), b.2.1.trans a.2.1, fun c hc h => b.2.2 c hc (a.2.2 c hc h)⟩
theorem fs_fo {s t : gx_S} (a : fs s t) : fo s t := ⟨fun k j _ h => a.1 k j h, fun k j _ => by rw [a.2.1], fun c hc h => ⟨a.2.2 c hc h, by rw [a.2.1], fun r _ => a.1 _ _ (by omega)⟩, fun j _ => .inl (a.1 _ _ (by omega))⟩
theorem fo_tr {s t u : gx_S} (a : fo s t) (b : fo t u) : fo s u := by
  refine ⟨fun k j h1 h2 => (b.1 k j h1 h2).trans (a.1 k j h1 h2), fun k j h => (b.2.1 k j h).trans (a.2.1 k j h), fun c hc h => ?_, fun j hj => ?_⟩
  · obtain ⟨a1, a2, a3⟩ := a.2.2.1 c hc h
    obtain ⟨b1, b2, b3⟩ := b.2.2.1 c hc a1
    exact ⟨b1, b2.trans a2, fun r hr => (b3 r hr).trans (a3 r hr)⟩
  · rcases a.2.2.2 j hj with x | x
    · rcases b.2.2.2 j hj with y | y
      · exact .inl (y.trans x)
      · unfold mv_ at y
        rw [a.1 233 j (by omega) (by omega), a.2.1 225 j (by omega), a.1 215 17 (by omega) (by omega), a.1 215 18 (by omega) (by omega)] at y
        exact .inr y
    · exact .inr x
theorem RK_fs {s t : gx_S} {R m : Nat} (K : RK s R m) (a : fs s t) (h : ∀ c, c < 9 → t.1 235 c = 0 ∨ t.1 235 c = 1) : RK t R m := by
  obtain ⟨k1, k2, k3, k4, k5, k6⟩ := K
  refine ⟨fun j hj => ?_, fun c hc => ⟨h c hc, ?_⟩, ?_, ?_, k5, k6⟩
  · rw [a.1 232 j (by omega), a.1 233 j (by omega), a.2.1, a.1 215 17 (by omega), a.1 215 18 (by omega)]
    exact k1 j hj
  · rw [a.2.1]
    exact (k2 c hc).2
  · rw [a.1 215 17 (by omega)]
    exact k3
  · rw [a.1 215 18 (by omega)]
    exact k4
/-- put and off: sums of rows and columns -/
theorem put_s {s : gx_S} {r c : Nat} (hr : r < 8) (hc : c < 9) (h : s.1 232 (9 * r + c) = 0) : (∀ k, or_ (put s r c) k = or_ s k + if k = r then 1 else 0) ∧ ∀ k, k < 9 → oc_ (put s r c) k = oc_ s k := by
  have z : ∀ j, (put s r c).1 232 j = if j = 9 * r + c then 1 else s.1 232 j := fun j => by
    show (if _ then _ else _) = _
    by_cases e : j = 9 * r + c
    · rw [if_pos ⟨rfl, e⟩, if_pos e]
    · rw [if_neg (fun h => e h.2), if_neg e]
  have y : ∀ j, (put s r c).2 230 j = if j = c then s.2 230 c + 1 else s.2 230 j := fun j => by
    show (if _ then _ else _) = _
    by_cases e : j = c
    · rw [if_pos ⟨rfl, e⟩, if_pos e]
    · rw [if_neg (fun h => e h.2), if_neg e]
      rfl
  refine ⟨fun k => ?_, fun k hk => ?_⟩
  · unfold or_
    by_cases e : k = r
    · rw [if_pos e, sg_updn (f := fun c => s.1 232 (9 * k + c)) (i := c) (x := 1) hc (by
        show (put s r c).1 232 (9 * k + c) = s.1 232 (9 * k + c) + 1
        rw [z, e, if_pos rfl, h]
        rfl) (fun d h1 h2 => by
        show (put s r c).1 232 (9 * k + d) = s.1 232 (9 * k + d)
        rw [z, if_neg (by omega)])]
    · rw [if_neg e, sg_eq (g := fun c => s.1 232 (9 * k + c)) fun d h1 => by
        show (put s r c).1 232 (9 * k + d) = s.1 232 (9 * k + d)
        rw [z, if_neg (by omega)]]
      omega
  · unfold oc_
    rw [y]
    by_cases e : k = c
    · rw [if_pos e, e, sg_updn (f := fun r => s.1 232 (9 * r + c)) (i := r) (x := 1) hr (by
        show (put s r c).1 232 (9 * r + c) = s.1 232 (9 * r + c) + 1
        rw [z, if_pos rfl, h]
        rfl) (fun d h1 h2 => by
        show (put s r c).1 232 (9 * d + c) = s.1 232 (9 * d + c)
        rw [z, if_neg (by omega)])]
      omega
    · rw [if_neg e, sg_eq (f := fun x => (put s r c).1 232 (9 * x + k)) (g := fun r => s.1 232 (9 * r + k)) fun d h1 => by
        show (put s r c).1 232 (9 * d + k) = s.1 232 (9 * d + k)
        rw [z, if_neg (by omega)]]
theorem off_s {s : gx_S} {r c : Nat} (hr : r < 8) (hc : c < 9) (h : s.1 232 (9 * r + c) = 1) : (∀ k, or_ (off1 s r c) k = or_ s k - if k = r then 1 else 0) ∧ ∀ k, k < 9 → oc_ (off1 s r c) k = oc_ s k := by
  have z : ∀ j, (off1 s r c).1 232 j = if j = 9 * r + c then 0 else s.1 232 j := fun j => by
    show (if _ then _ else _) = _
    by_cases e : j = 9 * r + c
    · rw [if_pos ⟨rfl, e⟩, if_pos e]
    · rw [if_neg (fun h => e h.2), if_neg e]
  have y : ∀ j, (off1 s r c).2 230 j = if j = c then s.2 230 c - 1 else s.2 230 j := fun j => by
    show (if _ then _ else _) = _
    by_cases e : j = c
    · rw [if_pos ⟨rfl, e⟩, if_pos e]
    · rw [if_neg (fun h => e h.2), if_neg e]
      rfl
  refine ⟨fun k => ?_, fun k hk => ?_⟩
  · unfold or_
    by_cases e : k = r
    · rw [if_pos e, sg_updn (f := fun c => s.1 232 (9 * k + c)) (i := c) (x := -1) hc (by
        show (off1 s r c).1 232 (9 * k + c) = s.1 232 (9 * k + c) + -1
        rw [z, e, if_pos rfl, h]
        rfl) (fun d h1 h2 => by
        show (off1 s r c).1 232 (9 * k + d) = s.1 232 (9 * k + d)
        rw [z, if_neg (by omega)])]
      rfl
    · rw [if_neg e, sg_eq (g := fun c => s.1 232 (9 * k + c)) fun d h1 => by
        show (off1 s r c).1 232 (9 * k + d) = s.1 232 (9 * k + d)
        rw [z, if_neg (by omega)]]
      omega
  · unfold oc_
    rw [y]
    by_cases e : k = c
    · rw [if_pos e, e, sg_updn (f := fun r => s.1 232 (9 * r + c)) (i := r) (x := -1) hr (by
        show (off1 s r c).1 232 (9 * r + c) = s.1 232 (9 * r + c) + -1
        rw [z, if_pos rfl, h]
        rfl) (fun d h1 h2 => by
        show (off1 s r c).1 232 (9 * d + c) = s.1 232 (9 * d + c)
        rw [z, if_neg (by omega)])]
      omega
    · rw [if_neg e, sg_eq (f := fun x => (off1 s r c).1 232 (9 * x + k)) (g := fun r => s.1 232 (9 * r + k)) fun d h1 => by
        show (off1 s r c).1 232 (9 * d + k) = s.1 232 (9 * d + k)
        rw [z, if_neg (by omega)]]
end
section
/-! THE REFERENCE's BALANCED TABLE: what finds and makesPlace answer -/
/-- what is seen newly is full, and the rows that are on there see all that they could use -/
def CLs (s t : gx_S) (R m : Nat) : Prop := ∀ c, c < m → s.1 235 c = 0 → t.1 235 c = 1 → s.2 229 c ≤ s.2 230 c ∧ ∀ r, r < R → s.1 232 (9 * r + c) = 1 → s.1 233 (9 * r + c) = 0 → ∀ d, d < m → can1 s r d → t.1 235 d = 1
theorem can1_fs {s t : gx_S} (a : fs s t) (r c : Nat) : can1 t r c ↔ can1 s r c := by
  unfold can1
  rw [a.2.1, a.1 233 _ (by omega), a.1 232 _ (by omega)]
theorem CLs_tr {s t u : gx_S} {R m : Nat} (hm : m ≤ 9) (a : fs s t) (b : fs t u) (ht : ∀ c, c < 9 → t.1 235 c = 0 ∨ t.1 235 c = 1) (x : CLs s t R m) (y : CLs t u R m) : CLs s u R m := by
  intro c hc h0 h1
  rcases ht c (by omega) with h | h
  · obtain ⟨y1, y2⟩ := y c hc h h1
    rw [a.2.1] at y1
    refine ⟨y1, fun r hr q1 q2 d hd q3 => y2 r hr ?_ ?_ d hd ((can1_fs a r d).mpr q3)⟩
    · rw [a.1 232 _ (by omega)]; exact q1
    · rw [a.1 233 _ (by omega)]; exact q2
  · obtain ⟨x1, x2⟩ := x c hc h0 h
    exact ⟨x1, fun r hr q1 q2 d hd q3 => b.2.2 d (by omega) (x2 r hr q1 q2 d hd q3)⟩
/-- finds(r): yes -/
def FT (s t : gx_S) (r R m : Nat) : Prop := fo s t ∧ RK t R m ∧ (∀ k, k < 8 → or_ t k = or_ s k + if k = r then 1 else 0) ∧ (∀ k, k < 9 → oc_ t k = oc_ s k) ∧ ∃ c0, c0 < m ∧ s.2 230 c0 < s.2 229 c0 ∧ ∀ k, k < 9 → t.2 230 k = s.2 230 k + if k = c0 then 1 else 0
/-- finds(r): no -/
def FF (s t : gx_S) (r R m : Nat) : Prop := fs s t ∧ RK t R m ∧ CLs s t R m ∧ ∀ c, c < m → can1 s r c → t.1 235 c = 1
/-- makesPlace(c): yes; s is the state before c is marked -/
def MT (s t : gx_S) (c R m : Nat) : Prop := fo s t ∧ RK t R m ∧ t.1 235 c = 1 ∧ (∀ k, k < 8 → or_ t k = or_ s k) ∧ (∀ k, k < 9 → oc_ t k = oc_ s k) ∧ (∀ r, r < 8 → s.1 232 (9 * r + c) = 0 → t.1 232 (9 * r + c) = 0) ∧ ∃ c0, c0 < m ∧ c0 ≠ c ∧ s.2 230 c0 < s.2 229 c0 ∧ ∀ k, k < 9 → t.2 230 k = s.2 230 k + (if k = c0 then 1 else 0) - if k = c then 1 else 0
/-- makesPlace(c): no; s is the state with c marked -/
def MN (s t : gx_S) (c R m : Nat) : Prop := fs s t ∧ RK t R m ∧ CLs s t R m ∧ ∀ r, r < R → s.1 232 (9 * r + c) = 1 → s.1 233 (9 * r + c) = 0 → ∀ d, d < m → can1 s r d → t.1 235 d = 1
/-- how many columns are unseen -/
def us (s : gx_S) : Int := sg (fun c => bi (s.1 235 c = 0)) 9
theorem us_mark {s : gx_S} {c : Nat} (hc : c < 9) (h : s.1 235 c = 0) : us (gw1 s 235 c 1) = us s - 1 := by
  have b1 : bi (s.1 235 c = 0) = 1 := if_pos h
  have z : ∀ j, (gw1 s 235 c 1).1 235 j = if j = c then 1 else s.1 235 j := fun j => by
    rw [gw1_1]
    by_cases e : j = c
    · rw [if_pos ⟨rfl, e⟩, if_pos e]
    · rw [if_neg (fun h => e h.2), if_neg e]
  have b0 : bi ((gw1 s 235 c 1).1 235 c = 0) = 0 := if_neg (by rw [z, if_pos rfl]; decide)
  have a := sg_updn (f := fun c => bi (s.1 235 c = 0)) (g := fun k => bi ((gw1 s 235 c 1).1 235 k = 0)) (i := c) (x := -1) hc (by
    show bi ((gw1 s 235 c 1).1 235 c = 0) = bi (s.1 235 c = 0) + -1
    rw [b0, b1]
    rfl) (fun k h1 h2 => by
    show bi ((gw1 s 235 c 1).1 235 k = 0) = bi (s.1 235 k = 0)
    unfold bi
    rw [z, if_neg h2])
  unfold us
  rw [a]
  rfl
end
section
/-! THE REFERENCE's BALANCED TABLE: makesPlace and finds -/
theorem put_1 (s : gx_S) (r c k j : Nat) (h : k ≠ 232) : (put s r c).1 k j = s.1 k j := if_neg fun x => h x.1
theorem put_2 (s : gx_S) (r c k j : Nat) (h : k ≠ 230) : (put s r c).2 k j = s.2 k j := if_neg fun x => h x.1
theorem put_on (s : gx_S) (r c j : Nat) : (put s r c).1 232 j = if j = 9 * r + c then 1 else s.1 232 j := by
  show (if _ then _ else _) = _
  by_cases e : j = 9 * r + c
  · rw [if_pos ⟨rfl, e⟩, if_pos e]
  · rw [if_neg (fun h => e h.2), if_neg e]
theorem put_fi (s : gx_S) (r c j : Nat) : (put s r c).2 230 j = s.2 230 j + if j = c then 1 else 0 := by
  show (if _ then _ else _) = _
  by_cases e : j = c
  · rw [if_pos ⟨rfl, e⟩, if_pos e, e]
  · rw [if_neg (fun h => e h.2), if_neg e]
    exact (Int.add_zero _).symm
theorem off_1 (s : gx_S) (r c k j : Nat) (h : k ≠ 232) : (off1 s r c).1 k j = s.1 k j := if_neg fun x => h x.1
theorem off_2 (s : gx_S) (r c k j : Nat) (h : k ≠ 230) : (off1 s r c).2 k j = s.2 k j := if_neg fun x => h x.1
theorem off_on (s : gx_S) (r c j : Nat) : (off1 s r c).1 232 j = if j = 9 * r + c then 0 else s.1 232 j := by
  show (if _ then _ else _) = _
  by_cases e : j = 9 * r + c
  · rw [if_pos ⟨rfl, e⟩, if_pos e]
  · rw [if_neg (fun h => e h.2), if_neg e]
theorem off_fi (s : gx_S) (r c j : Nat) : (off1 s r c).2 230 j = s.2 230 j - if j = c then 1 else 0 := by
  show (if _ then _ else _) = _
  by_cases e : j = c
  · rw [if_pos ⟨rfl, e⟩, if_pos e, e]
  · rw [if_neg (fun h => e h.2), if_neg e]
    exact (Int.sub_zero _).symm
theorem RK_put {s : gx_S} {R m r c : Nat} (K : RK s R m) (h : 0 < s.2 225 (9 * r + c)) (hl : s.2 230 c < 1000) : RK (put s r c) R m := by
  obtain ⟨k1, k2, k3, k4, k5, k6⟩ := K
  refine ⟨fun j hj => ?_, fun d hd => ?_, k3, k4, k5, k6⟩
  · obtain ⟨a1, a2, a3, a4⟩ := k1 j hj
    rw [put_on, put_1 s r c 233 j (by decide), put_2 s r c 225 j (by decide), put_1 s r c 215 17 (by decide), put_1 s r c 215 18 (by decide)]
    by_cases e : j = 9 * r + c
    · rw [if_pos e, e]
      rw [e] at a2 a3
      exact ⟨.inr rfl, a2, a3, fun _ _ _ => h⟩
    · rw [if_neg e]
      exact ⟨a1, a2, a3, a4⟩
  · obtain ⟨b1, b2, b3, b4, b5⟩ := k2 d hd
    rw [put_fi, put_1 s r c 235 d (by decide), put_2 s r c 229 d (by decide)]
    refine ⟨b1, b2, b3, ?_, ?_⟩
    · split <;> omega
    · split
      · rename_i e
        rw [e]
        omega
      · omega
theorem RK_off {s : gx_S} {R m r c : Nat} (K : RK s R m) (hl : -1000 < s.2 230 c) : RK (off1 s r c) R m := by
  obtain ⟨k1, k2, k3, k4, k5, k6⟩ := K
  refine ⟨fun j hj => ?_, fun d hd => ?_, k3, k4, k5, k6⟩
  · obtain ⟨a1, a2, a3, a4⟩ := k1 j hj
    rw [off_on, off_1 s r c 233 j (by decide), off_2 s r c 225 j (by decide), off_1 s r c 215 17 (by decide), off_1 s r c 215 18 (by decide)]
    by_cases e : j = 9 * r + c
    · rw [if_pos e]
      exact ⟨.inl rfl, a2, a3, fun h => absurd h (by decide)⟩
    · rw [if_neg e]
      exact ⟨a1, a2, a3, a4⟩
  · obtain ⟨b1, b2, b3, b4, b5⟩ := k2 d hd
    rw [off_fi, off_1 s r c 235 d (by decide), off_2 s r c 229 d (by decide)]
    refine ⟨b1, b2, b3, ?_, ?_⟩
    · split
      · rename_i e
        rw [e]
        omega
      · omega
    · split <;> omega
theorem fs_mark (s : gx_S) (c : Nat) : fs s (gw1 s 235 c 1) := by
  refine ⟨fun k j h => ?_, rfl, fun d _ h => ?_⟩
  · rw [gw1_1, if_neg (fun x => h x.1)]
  · rw [gw1_1]
    split
    · rfl
    · exact h
theorem RK_mark {s : gx_S} {R m : Nat} (K : RK s R m) (c : Nat) : RK (gw1 s 235 c 1) R m := RK_fs K (fs_mark s c) fun d hd => by
  rw [gw1_1]
  split
  · exact .inr rfl
  · exact (K.2.1 d hd).1
theorem fs_or {s t : gx_S} (a : fs s t) (k : Nat) : or_ t k = or_ s k := sg_eq fun c _ => a.1 232 _ (by omega)
theorem fs_oc {s t : gx_S} (a : fs s t) (k : Nat) : oc_ t k = oc_ s k := by
  unfold oc_
  rw [a.2.1, sg_eq (f := fun r => t.1 232 (9 * r + k)) (g := fun r => s.1 232 (9 * r + k)) fun c _ => a.1 232 _ (by omega)]
theorem fs_us {s t : gx_S} (a : fs s t) (h : ∀ c, c < 9 → s.1 235 c = 0 ∨ s.1 235 c = 1) : us t ≤ us s := sg_le fun c hc => by
  show bi (t.1 235 c = 0) ≤ bi (s.1 235 c = 0)
  by_cases e : s.1 235 c = 0
  · rw [show bi (s.1 235 c = 0) = 1 from if_pos e]
    exact (bi_r _).2
  · have x := a.2.2 c hc ((h c hc).resolve_left e)
    rw [show bi (t.1 235 c = 0) = 0 from if_neg (by rw [x]; decide)]
    exact (bi_r _).1
theorem fo_put {s t : gx_S} {r c : Nat} (hc : c < 9) (a : fo s t) (h0 : s.1 235 c = 0) (h1 : mv_ s (9 * r + c)) : fo s (put t r c) := by
  refine ⟨fun k j x y => (put_1 t r c k j x).trans (a.1 k j x y), fun k j x => (put_2 t r c k j x).trans (a.2.1 k j x), fun d hd x => ?_, fun j hj => ?_⟩
  · obtain ⟨a1, a2, a3⟩ := a.2.2.1 d hd x
    have e : d ≠ c := fun e => by rw [e, h0] at x; exact absurd x (by decide)
    refine ⟨(put_1 t r c 235 d (by decide)).trans a1, ?_, fun r' hr' => ?_⟩
    · rw [put_fi, if_neg e, a2]
      exact Int.add_zero _
    · rw [put_on, if_neg (by omega)]
      exact a3 r' hr'
  · rw [put_on]
    by_cases e : j = 9 * r + c
    · rw [e]
      exact .inr h1
    · rw [if_neg e]
      exact a.2.2.2 j hj
theorem fo_off {s t : gx_S} {r c : Nat} (hc : c < 9) (a : fo s t) (h0 : s.1 235 c = 0) (h1 : mv_ s (9 * r + c)) : fo s (off1 t r c) := by
  refine ⟨fun k j x y => (off_1 t r c k j x).trans (a.1 k j x y), fun k j x => (off_2 t r c k j x).trans (a.2.1 k j x), fun d hd x => ?_, fun j hj => ?_⟩
  · obtain ⟨a1, a2, a3⟩ := a.2.2.1 d hd x
    have e : d ≠ c := fun e => by rw [e, h0] at x; exact absurd x (by decide)
    refine ⟨(off_1 t r c 235 d (by decide)).trans a1, ?_, fun r' hr' => ?_⟩
    · rw [off_fi, if_neg e, a2]
      exact Int.sub_zero _
    · rw [off_on, if_neg (by omega)]
      exact a3 r' hr'
  · rw [off_on]
    by_cases e : j = 9 * r + c
    · rw [e]
      exact .inr h1
    · rw [if_neg e]
      exact a.2.2.2 j hj
/-- makesPlace(c): the row found one elsewhere and gives this one up -/
theorem MT_of {s b t q : gx_S} {R m r c : Nat} (hr : r < R) (hc : c < m) (h0 : s.1 235 c = 0) (hf : s.2 229 c ≤ s.2 230 c) (B : fs s b) (B1 : b.1 235 c = 1) (a : fs b t) (T : RK t R m) (x1 : t.1 232 (9 * r + c) = 1) (x3 : t.1 233 (9 * r + c) = 0) (F : FT t q r R m) : MT s (off1 q r c) c R m := by
  obtain ⟨F1, F2, F3, F4, c0, F5, F6, F7⟩ := F
  obtain ⟨k1, k2, k3, k4, k5, k6⟩ := T
  have A := fs_tr B a
  have tc := a.2.2 c (by omega) B1
  obtain ⟨p1, p2, p3⟩ := F1.2.2.1 c (by omega) tc
  have ne : c0 ≠ c := fun e => by
    have := F7 c (by omega)
    rw [if_pos e.symm] at this
    omega
  obtain ⟨y1, y2⟩ := off_s (s := q) (r := r) (c := c) (by omega) (by omega) ((p3 r (by omega)).trans x1)
  have s3 : s.1 233 (9 * r + c) = 0 := (A.1 233 _ (by omega)).symm.trans x3
  have s5 : 0 < s.2 225 (9 * r + c) := by
    rw [← A.2.1]
    exact (k1 (9 * r + c) (by omega)).2.2.2 x1 (by rw [k3]; omega) (by rw [k4]; omega)
  have l1 := (k2 c (by omega)).2
  have l2 : t.2 230 c = s.2 230 c := by rw [A.2.1]
  have l3 : t.2 229 c = s.2 229 c := by rw [A.2.1]
  have sm : mv_ s (9 * r + c) := ⟨s3, s5, by rw [← A.1 215 17 (by omega), k3]; omega, by rw [← A.1 215 18 (by omega), k4]; omega⟩
  refine ⟨fo_off (by omega) (fo_tr (fs_fo A) F1) h0 sm, RK_off F2 (by omega), (off_1 q r c 235 c (by decide)).trans p1, fun k hk => ?_, fun k hk => ?_, fun r' hr' z => ?_, c0, F5, ne, ?_, fun k hk => ?_⟩
  · rw [y1, F3 k hk, fs_or A]
    omega
  · rw [y2 k hk, F4 k hk, fs_oc A]
  · rw [off_on]
    split
    · rfl
    · rw [p3 r' hr', A.1 232 _ (by omega)]
      exact z
  · rw [← A.2.1]
    exact F6
  · rw [off_fi, F7 k hk, A.2.1]
theorem sl_169 {R m c : Nat} {n0 : Int} {s b : gx_S} (k168 k169 : Int → gx_S → Option (Bool × gx_S)) (hc : c < m) (h0 : s.1 235 c = 0) (hf : s.2 229 c ≤ s.2 230 c) (B : fs s b) (B1 : b.1 235 c = 1) (Bk : RK b R m) (hu : us b < n0) (H : ∀ (r : Nat) (t : gx_S), r < R → RK t R m → us t < n0 → ∃ (v : Bool) (q : gx_S), k168 r t = some (v, q) ∧ (v = true → FT t q r R m) ∧ (v = false → FF t q r R m)) : ∀ (n r : Nat) (t : gx_S), R < n + r → r ≤ R → fs b t → RK t R m → CLs b t R m → (∀ r', r' < r → b.1 232 (9 * r' + c) = 1 → b.1 233 (9 * r' + c) = 0 → ∀ d, d < m → can1 b r' d → t.1 235 d = 1) → ∃ (v : Bool) (q : gx_S), gm_169_2 k168 k169 n c r t = some (v, q) ∧ (v = true → MT s q c R m) ∧ (v = false → MN b q c R m) := by
  have hm : m ≤ 9 := Bk.2.2.2.2.2
  intro n
  induction n with
  | zero => intro r t hn; omega
  | succ n ih =>
    intro r t hn hr a T L cl
    by_cases e : r = R
    · rw [e, se_169_end k168 k169 n T]
      exact ⟨false, t, rfl, fun h => Bool.noConfusion h, fun _ => ⟨a, T, L, fun r' h' => cl r' (by omega)⟩⟩
    · have hrR : r < R := by omega
      have ce : ((r : Int) + 1) = ((r + 1 : Nat) : Int) := rfl
      by_cases x : t.1 232 (9 * r + c) = 0 ∨ ¬ t.1 233 (9 * r + c) = 0
      · rw [se_169_skip k168 k169 n T hrR (by omega) x, ce]
        refine ih (r + 1) t (by omega) (by omega) a T L fun r' h' => ?_
        by_cases e' : r' = r
        · intro q1 q2
          rw [e', ← a.1 232 _ (by omega)] at q1
          rw [e', ← a.1 233 _ (by omega)] at q2
          rcases x with x | x
          · rw [x] at q1
            exact absurd q1 (by decide)
          · exact absurd q2 x
        · exact cl r' (by omega)
      · have x2 : ¬ t.1 232 (9 * r + c) = 0 := fun h => x (.inl h)
        have x3 : t.1 233 (9 * r + c) = 0 := Classical.byContradiction fun h => x (.inr h)
        have R8 : R ≤ 8 := T.2.2.2.2.1
        have x1 := (T.1 (9 * r + c) (by omega)).1.resolve_left x2
        obtain ⟨v, q, w1, w2, w3⟩ := H r t hrR T (Int.lt_of_le_of_lt (fs_us a fun d hd => (Bk.2.1 d hd).1) hu)
        rw [se_169_use k168 k169 n T hrR (by omega) x2 x3, w1, Option.bind_some]
        cases v with
        | true =>
          exact ⟨true, off1 q r c, rfl, fun _ => MT_of hrR hc h0 hf B B1 a T x1 x3 (w2 rfl), fun h => Bool.noConfusion h⟩
        | false =>
          obtain ⟨f1, f2, f3, f4⟩ := w3 rfl
          rw [if_neg (show ¬ (false, q).1 = true from Bool.false_ne_true), ce]
          refine ih (r + 1) q (by omega) (by omega) (fs_tr a f1) f2 (CLs_tr hm a f1 (fun d hd => (T.2.1 d hd).1) L f3) fun r' h' q1 q2 d hd q3 => ?_
          by_cases e' : r' = r
          · rw [e'] at q3
            exact f4 d hd ((can1_fs a r d).mpr q3)
          · exact f1.2.2 d (by omega) (cl r' (by omega) q1 q2 d hd q3)
/-- finds(r): a place free -/
theorem FT_a {s t : gx_S} {R m r c : Nat} (a : fs s t) (T : RK t R m) (hr : r < R) (hc : c < m) (h0 : s.1 235 c = 0) (cn : can1 t r c) (hl : t.2 230 c < t.2 229 c) : FT s (put t r c) r R m := by
  obtain ⟨k1, k2, k3, k4, k5, k6⟩ := id T
  obtain ⟨y1, y2⟩ := put_s (s := t) (r := r) (c := c) (by omega) (by omega) cn.2.2
  have l1 := (k2 c (by omega)).2
  refine ⟨fo_put (by omega) (fs_fo a) h0 ?_, RK_put T cn.1 (by omega), fun k hk => ?_, fun k hk => ?_, c, hc, ?_, fun k hk => ?_⟩
  · exact ⟨by rw [← a.1 233 _ (by omega)]; exact cn.2.1, by rw [← a.2.1]; exact cn.1, by rw [← a.1 215 17 (by omega), k3]; omega, by rw [← a.1 215 18 (by omega), k4]; omega⟩
  · rw [y1, fs_or a]
  · rw [y2 k hk, fs_oc a]
  · rw [← a.2.1]
    exact hl
  · rw [put_fi, a.2.1]
/-- finds(r): a place made -/
theorem FT_b {s t q : gx_S} {R m r c : Nat} (a : fs s t) (T : RK t R m) (hr : r < R) (hc : c < m) (h0 : s.1 235 c = 0) (cn : can1 t r c) (M : MT t q c R m) : FT s (put q r c) r R m := by
  obtain ⟨k1, k2, k3, k4, k5, k6⟩ := id T
  obtain ⟨M1, M2, M3, M4, M5, M6, c0, M7, M8, M9, M10⟩ := M
  obtain ⟨y1, y2⟩ := put_s (s := q) (r := r) (c := c) (by omega) (by omega) (M6 r (by omega) cn.2.2)
  have l1 := (k2 c (by omega)).2
  have l2 := M10 c (by omega)
  rw [if_neg (fun h => M8 h.symm), if_pos rfl] at l2
  have c5 : 0 < q.2 225 (9 * r + c) := by
    rw [M1.2.1 225 _ (by omega)]
    exact cn.1
  refine ⟨fo_put (by omega) (fo_tr (fs_fo a) M1) h0 ?_, RK_put M2 c5 (by omega), fun k hk => ?_, fun k hk => ?_, c0, M7, ?_, fun k hk => ?_⟩
  · exact ⟨by rw [← a.1 233 _ (by omega)]; exact cn.2.1, by rw [← a.2.1]; exact cn.1, by rw [← a.1 215 17 (by omega), k3]; omega, by rw [← a.1 215 18 (by omega), k4]; omega⟩
  · rw [y1, M4 k hk, fs_or a]
  · rw [y2 k hk, M5 k hk, fs_oc a]
  · rw [← a.2.1]
    exact M9
  · rw [put_fi, M10 k hk, a.2.1]
    omega
theorem sl_168 {R m r : Nat} {n0 : Int} {s : gx_S} (k168 k169 : Int → gx_S → Option (Bool × gx_S)) (hr : r < R) (S : RK s R m) (hu : us s ≤ n0) (H : ∀ (c : Nat) (t : gx_S), c < m → RK t R m → t.1 235 c = 0 → t.2 229 c ≤ t.2 230 c → us t ≤ n0 → ∃ (v : Bool) (q : gx_S), k169 c (gw1 t 235 c 1) = some (v, q) ∧ (v = true → MT t q c R m) ∧ (v = false → MN (gw1 t 235 c 1) q c R m)) : ∀ (n c : Nat) (t : gx_S), m < n + c → c ≤ m → fs s t → RK t R m → CLs s t R m → (∀ d, d < c → can1 s r d → t.1 235 d = 1) → ∃ (v : Bool) (q : gx_S), gm_168_2 k168 k169 n r c t = some (v, q) ∧ (v = true → FT s q r R m) ∧ (v = false → FF s q r R m) := by
  have hm : m ≤ 9 := S.2.2.2.2.2
  have R8 : R ≤ 8 := S.2.2.2.2.1
  intro n
  induction n with
  | zero => intro c t hn; omega
  | succ n ih =>
    intro c t hn hc a T L cl
    by_cases e : c = m
    · rw [e, se_168_end k168 k169 n T]
      exact ⟨false, t, rfl, fun h => Bool.noConfusion h, fun _ => ⟨a, T, L, fun d hd => cl d (by omega)⟩⟩
    · have hcm : c < m := by omega
      have ce : ((c : Int) + 1) = ((c + 1 : Nat) : Int) := rfl
      by_cases x : can1 t r c ∧ t.1 235 c = 0
      · obtain ⟨cn, x0⟩ := x
        have s0 : s.1 235 c = 0 := by
          rcases (S.2.1 c (by omega)).1 with h | h
          · exact h
          · rw [a.2.2 c (by omega) h] at x0
            exact absurd x0 (by decide)
        rw [se_168_use k168 k169 n T (by omega) hcm cn x0]
        by_cases f : t.2 230 c < t.2 229 c
        · rw [if_pos f]
          exact ⟨true, _, rfl, fun _ => FT_a (fs_tr a (fs_mark t c)) (RK_mark T c) hr hcm s0 ((can1_fs (fs_mark t c) r c).mpr cn) f, fun h => Bool.noConfusion h⟩
        · rw [if_neg f]
          obtain ⟨v, q, w1, w2, w3⟩ := H c t hcm T x0 (by omega) (Int.le_trans (fs_us a fun d hd => (S.2.1 d hd).1) hu)
          rw [w1, Option.bind_some]
          cases v with
          | true =>
            exact ⟨true, put q r c, rfl, fun _ => FT_b a T hr hcm s0 cn (w2 rfl), fun h => Bool.noConfusion h⟩
          | false =>
            obtain ⟨f1, f2, f3, f4⟩ := w3 rfl
            have g1 := fs_mark t c
            have g2 : (gw1 t 235 c 1).1 235 c = 1 := if_pos ⟨rfl, rfl⟩
            have g3 := fs_tr g1 f1
            rw [if_neg (show ¬ (false, q).1 = true from Bool.false_ne_true), ce]
            refine ih (c + 1) q (by omega) (by omega) (fs_tr a g3) f2 (CLs_tr hm a g3 (fun d hd => (T.2.1 d hd).1) L fun d hd h0 h1 => ?_) fun d hd q3 => ?_
            · by_cases e' : d = c
              · rw [e']
                refine ⟨by omega, fun r' hr' q1 q2 d' hd' q3 => f4 r' hr' ?_ ?_ d' hd' ((can1_fs g1 r' d').mpr q3)⟩
                · rw [g1.1 232 _ (by omega)]
                  exact q1
                · rw [g1.1 233 _ (by omega)]
                  exact q2
              · obtain ⟨z1, z2⟩ := f3 d hd (by rw [gw1_1, if_neg (fun h => e' h.2)]; exact h0) h1
                exact ⟨z1, fun r' hr' q1 q2 d' hd' q3 => z2 r' hr' (by rw [g1.1 232 _ (by omega)]; exact q1) (by rw [g1.1 233 _ (by omega)]; exact q2) d' hd' ((can1_fs g1 r' d').mpr q3)⟩
            · by_cases e' : d = c
              · rw [e']
                exact f1.2.2 c (by omega) g2
              · exact g3.2.2 d (by omega) (cl d (by omega) q3)
      · rw [se_168_skip k168 k169 n T (by omega) hcm x, ce]
        refine ih (c + 1) t (by omega) (by omega) a T L fun d hd q3 => ?_
        by_cases e' : d = c
        · rw [e'] at q3 ⊢
          exact (T.2.1 c (by omega)).1.resolve_left fun h => x ⟨(can1_fs a r c).mpr q3, h⟩
        · exact cl d (by omega) q3
theorem sp_168f {R m : Nat} : ∀ (n r : Nat) (s : gx_S), r < R → RK s R m → us s < n → ∃ (v : Bool) (q : gx_S), gm_168f n r s = some (v, q) ∧ (v = true → FT s q r R m) ∧ (v = false → FF s q r R m) := by
  intro n
  induction n with
  | zero =>
    intro r s hr K h
    have : 0 ≤ us s := sg_nn fun k _ => (bi_r _).1
    omega
  | succ n ih =>
    intro r s hr K h
    rw [gm_168f]
    unfold gm_168o
    have R8 : R ≤ 8 := K.2.2.2.2.1
    have m9 : m ≤ 9 := K.2.2.2.2.2
    refine sl_168 (n0 := n) _ _ hr K (by omega) (fun c t hc T h0 hf hu => ?_) 100000 0 s (by omega) (by omega) (fs_rf s) K (fun c _ x y => by rw [x] at y; exact absurd y (by decide)) fun d hd => by omega
    show ∃ (v : Bool) (q : gx_S), gm_169o (gm_168f n) (fun _ _ => none) c (gw1 t 235 c 1) = some (v, q) ∧ _
    unfold gm_169o
    refine sl_169 (n0 := n) _ _ hc h0 hf (fs_mark t c) (if_pos ⟨rfl, rfl⟩) (RK_mark T c) ?_ ih 100000 0 _ (by omega) (by omega) (fs_rf _) (RK_mark T c) (fun c _ x y => by rw [x] at y; exact absurd y (by decide)) fun d hd => by omega
    rw [us_mark (by omega) h0]
    omega
theorem sp_168 {R m r : Nat} {s : gx_S} (hr : r < R) (K : RK s R m) : ∃ (v : Bool) (q : gx_S), gm_168 r s = some (v, q) ∧ (v = true → FT s q r R m) ∧ (v = false → FF s q r R m) := by
  refine sp_168f 12 r s hr K ?_
  have : us s ≤ 9 := sg_le (g := fun _ => 1) fun k _ => (bi_r _).2
  omega
end
section
/-! THE REFERENCE's BALANCED TABLE: fillsUp -/
/-- all but the seen stay -/
def fz (s t : gx_S) : Prop := (∀ k j, k ≠ 235 → t.1 k j = s.1 k j) ∧ t.2 = s.2
theorem fz_tr {s t u : gx_S} (a : fz s t) (b : fz t u) : fz s u := ⟨fun k j h => (b.1 k j h).trans (a.1 k j h), b.2.trans a.2⟩
/-- rows put on until none can go on -/
def GW (s t : gx_S) : Prop := (∀ k j, k ≠ 232 → k ≠ 235 → t.1 k j = s.1 k j) ∧ (∀ k j, k ≠ 230 → k ≠ 231 → t.2 k j = s.2 k j) ∧ (∀ j, j < 72 → t.1 232 j = s.1 232 j ∨ mv_ s j) ∧ (∀ k, k < 8 → or_ t k + t.2 231 k = or_ s k + s.2 231 k) ∧ (∀ k, k < 9 → oc_ t k = oc_ s k) ∧ (∀ k, k < 8 → t.2 231 k ≤ s.2 231 k ∧ (s.2 231 k ≤ 0 → t.2 231 k = s.2 231 k) ∧ (0 ≤ s.2 231 k → 0 ≤ t.2 231 k)) ∧ ∀ k, k < 9 → s.2 230 k ≤ t.2 230 k ∧ (t.2 230 k = s.2 230 k ∨ t.2 230 k ≤ s.2 229 k)
theorem GW_fz {s t : gx_S} (a : fz s t) : GW s t := by
  have o : ∀ k, or_ t k = or_ s k := fun k => sg_eq fun c _ => a.1 232 _ (by omega)
  refine ⟨fun k j _ h => a.1 k j h, fun k j _ _ => by rw [a.2], fun j _ => .inl (a.1 232 j (by omega)), fun k _ => by rw [o, a.2], fun k _ => ?_, fun k _ => ?_, fun k _ => ?_⟩
  · unfold oc_
    rw [a.2, sg_eq (f := fun r => t.1 232 (9 * r + k)) (g := fun r => s.1 232 (9 * r + k)) fun c _ => a.1 232 _ (by omega)]
  · rw [a.2]
    omega
  · rw [a.2]
    omega
theorem GW_tr {s t u : gx_S} (a : GW s t) (b : GW t u) : GW s u := by
  obtain ⟨a1, a2, a3, a4, a5, a6, a7⟩ := a
  obtain ⟨b1, b2, b3, b4, b5, b6, b7⟩ := b
  refine ⟨fun k j h1 h2 => (b1 k j h1 h2).trans (a1 k j h1 h2), fun k j h1 h2 => (b2 k j h1 h2).trans (a2 k j h1 h2), fun j hj => ?_, fun k hk => (b4 k hk).trans (a4 k hk), fun k hk => (b5 k hk).trans (a5 k hk), fun k hk => ?_, fun k hk => ?_⟩
  · rcases a3 j hj with x | x
    · rcases b3 j hj with y | y
      · exact .inl (y.trans x)
      · unfold mv_ at y
        rw [a1 233 j (by omega) (by omega), a2 225 j (by omega) (by omega), a1 215 17 (by omega) (by omega), a1 215 18 (by omega) (by omega)] at y
        exact .inr y
    · exact .inr x
  · obtain ⟨x1, x2, x3⟩ := a6 k hk
    obtain ⟨y1, y2, y3⟩ := b6 k hk
    refine ⟨by omega, fun h => ?_, fun h => y3 (x3 h)⟩
    have := x2 h
    have := y2 (by omega)
    omega
  · have x := a7 k hk
    have y := b7 k hk
    rw [a2 229 k (by omega) (by omega)] at y
    omega
/-- how many are wanted in all -/
def tw (s : gx_S) : Int := sg (fun r => ((s.2 231 r).toNat : Int)) 8
theorem GW_tw {s t : gx_S} (a : GW s t) : tw t ≤ tw s := sg_le fun k hk => by
  have := (a.2.2.2.2.2.1 k hk).1
  show ((t.2 231 k).toNat : Int) ≤ ((s.2 231 k).toNat : Int)
  omega
def WB (s : gx_S) : Prop := ∀ k, k < 8 → -1000 ≤ s.2 231 k ∧ s.2 231 k ≤ 1000
theorem GW_WB {s t : gx_S} (a : GW s t) (h : WB s) : WB t := fun k hk => by
  have x := a.2.2.2.2.2.1 k hk
  have y := h k hk
  omega
/-- row r finds none: the columns that it could use, and so on, are all full -/
def SK (s : gx_S) (r R m : Nat) : Prop := ∃ C : Nat → Prop, (∀ c, c < m → can1 s r c → C c) ∧ ∀ c, c < m → C c → s.2 229 c ≤ s.2 230 c ∧ ∀ r', r' < R → s.1 232 (9 * r' + c) = 1 → s.1 233 (9 * r' + c) = 0 → ∀ d, d < m → can1 s r' d → C d
theorem can1_fz {s t : gx_S} (a : fz s t) (r c : Nat) : can1 t r c ↔ can1 s r c := by
  unfold can1
  rw [a.2, a.1 233 _ (by omega), a.1 232 _ (by omega)]
theorem SK_fz {s t : gx_S} {r R m : Nat} (a : fz s t) (h : SK s r R m) : SK t r R m := by
  obtain ⟨C, h1, h2⟩ := h
  refine ⟨C, fun c hc x => h1 c hc ((can1_fz a r c).mp x), fun c hc x => ?_⟩
  obtain ⟨z1, z2⟩ := h2 c hc x
  rw [a.2]
  refine ⟨z1, fun r' hr' q1 q2 d hd q3 => z2 r' hr' ?_ ?_ d hd ((can1_fz a r' d).mp q3)⟩
  · rw [← a.1 232 _ (by omega)]
    exact q1
  · rw [← a.1 233 _ (by omega)]
    exact q2
theorem SK_FF {s t : gx_S} {r R m : Nat} (hm : m ≤ 9) (h0 : ∀ c, c < 9 → s.1 235 c = 0) (F : FF s t r R m) : SK s r R m :=
  ⟨fun c => t.1 235 c = 1, F.2.2.2, fun c hc x => F.2.2.1 c hc (h0 c (by omega)) x⟩
theorem RK_fz {s t : gx_S} {R m : Nat} (K : RK s R m) (a : fz s t) (h : ∀ c, c < 9 → t.1 235 c = 0 ∨ t.1 235 c = 1) : RK t R m := by
  obtain ⟨k1, k2, k3, k4, k5, k6⟩ := K
  refine ⟨fun j hj => ?_, fun c hc => ⟨h c hc, ?_⟩, ?_, ?_, k5, k6⟩
  · rw [a.1 232 j (by omega), a.1 233 j (by omega), a.2, a.1 215 17 (by omega), a.1 215 18 (by omega)]
    exact k1 j hj
  · rw [a.2]
    exact (k2 c hc).2
  · rw [a.1 215 17 (by omega)]
    exact k3
  · rw [a.1 215 18 (by omega)]
    exact k4
/-- the seen are cleared -/
theorem sl_170_20 (k : Int → Int → gx_S → Option gx_S) (x1 : Int) (r : Nat) : ∀ (n c : Nat) (s : gx_S), 9 < n + c → c ≤ 9 → ∃ (n' : Nat) (u : gx_S), gm_170_20 k n x1 r c s = gm_170_20 k (n' + 1) x1 r 9 u ∧ fz s u ∧ ∀ d, d < 9 → u.1 235 d = if c ≤ d then 0 else s.1 235 d := by
  intro n
  induction n with
  | zero => intro c s h; omega
  | succ n ih =>
    intro c s h hc
    by_cases e : c = 9
    · rw [e]
      exact ⟨n, s, rfl, ⟨fun _ _ _ => rfl, rfl⟩, fun d hd => by rw [if_neg (by omega)]⟩
    · obtain ⟨n', u, w1, w2, w3⟩ := ih (c + 1) (gw1 s 235 c 0) (by omega) (by omega)
      refine ⟨n', u, ?_, fz_tr (t := gw1 s 235 c 0) ⟨fun k j h => by rw [gw1_1, if_neg (fun x => h x.1)], rfl⟩ w2, fun d hd => ?_⟩
      · rw [gm_170_20, ← w1]
        have i5 : ((c : Int)).toNat = c := by omega
        have g0 : gn2 0 = 0 := by decide
        have ce : ((c : Int) + 1) = ((c + 1 : Nat) : Int) := rfl
        simp (disch := omega) only [if_pos, if_neg, i5, g0, ce]
      · rw [w3 d hd, gw1_1]
        by_cases q : d = c
        · rw [if_neg (by omega), if_pos ⟨rfl, q⟩, if_pos (by omega)]
        · by_cases q' : c ≤ d
          · rw [if_pos (by omega), if_pos q']
          · rw [if_neg (by omega), if_neg q', if_neg (fun h => q h.2)]
/-- a row: all stays but the seen, and it is stuck if it wants one; or one is put on -/
theorem sp_170_20 {R m r : Nat} {s : gx_S} (k : Int → Int → gx_S → Option gx_S) (x1 : Int) (hr : r < R) (K : RK s R m) (W : WB s) : ∃ (x : Int) (u : gx_S), gm_170_20 k 100000 x1 r 0 s = k x ((r + 1 : Nat) : Int) u ∧ GW s u ∧ RK u R m ∧ ((x = x1 ∧ fz s u ∧ (0 < u.2 231 r → SK u r R m)) ∨ (x = 1 ∧ tw u + 1 ≤ tw s)) := by
  obtain ⟨n', u, w1, w2, w3⟩ := sl_170_20 k x1 r 100000 0 s (by omega) (by omega)
  have R8 : R ≤ 8 := K.2.2.2.2.1
  have m9 : m ≤ 9 := K.2.2.2.2.2
  have z : ∀ c, c < 9 → u.1 235 c = 0 := fun c hc => (w3 c hc).trans (if_pos (by omega))
  have K' := RK_fz K w2 fun c hc => .inl (z c hc)
  have b := W r (by omega)
  rw [← w2.2] at b
  have i5 : ((r : Int)).toNat = r := by omega
  have ce : ((r : Int) + 1) = ((r + 1 : Nat) : Int) := rfl
  have w1 : gm_170_20 k 100000 x1 r 0 s = gm_170_20 k (n' + 1) x1 r 9 u := w1
  rw [w1, gm_170_20, if_pos (by decide), if_pos (by decide), if_pos (by omega), i5, if_pos (by omega)]
  by_cases v : u.2 231 r ≤ 0
  · rw [if_pos v]
    exact ⟨x1, u, rfl, GW_fz w2, K', .inl ⟨rfl, w2, fun h => absurd v (by omega)⟩⟩
  · rw [if_neg v]
    obtain ⟨f, q, y1, y2, y3⟩ := sp_168 hr K'
    rw [y1, Option.bind_some]
    cases f with
    | false =>
      have F := y3 rfl
      have g := F.1
      have e : fz u q := ⟨g.1, g.2.1⟩
      rw [if_pos (show gb (false, q).1 = 0 from (by decide : gb false = 0))]
      exact ⟨x1, q, rfl, GW_fz (fz_tr w2 e), F.2.1, .inl ⟨rfl, fz_tr w2 e, fun _ => SK_fz e (SK_FF m9 z F)⟩⟩
    | true =>
      obtain ⟨F1, F2, F3, F4, c0, F5, F6, F7⟩ := y2 rfl
      rw [if_neg (show ¬ gb (true, q).1 = 0 from (by decide : ¬ gb true = 0))]
      have q231 : ∀ j, q.2 231 j = u.2 231 j := fun j => F1.2.1 231 j (by omega)
      have y : ∀ j, (gw2 q 231 r (q.2 231 r - 1)).2 231 j = u.2 231 j - if j = r then 1 else 0 := fun j => by
        show (if _ then _ else _) = _
        by_cases e : j = r
        · rw [if_pos ⟨rfl, e⟩, if_pos e, q231, e]
        · rw [if_neg (fun h => e h.2), if_neg e, q231]
          exact (Int.sub_zero _).symm
      have yo : ∀ k j, k ≠ 231 → (gw2 q 231 r (q.2 231 r - 1)).2 k j = q.2 k j := fun k j h => if_neg fun x => h x.1
      have G : GW u (gw2 q 231 r (q.2 231 r - 1)) := by
        refine ⟨fun k j h1 h2 => F1.1 k j h1 h2, fun k j h1 h2 => (yo k j h2).trans (F1.2.1 k j h1), F1.2.2.2, fun k hk => ?_, fun k hk => ?_, fun k hk => ?_, fun k hk => ?_⟩
        · rw [y]
          have a := F3 k hk
          have b : or_ (gw2 q 231 r (q.2 231 r - 1)) k = or_ q k := rfl
          omega
        · have a := F4 k hk
          unfold oc_ at a ⊢
          rw [yo 230 k (by decide)]
          exact a
        · rw [y]
          by_cases e : k = r
          · rw [if_pos e, e]
            omega
          · rw [if_neg e]
            omega
        · rw [yo 230 k (by decide), F7 k hk]
          by_cases e : k = c0
          · rw [if_pos e, e]
            omega
          · rw [if_neg e]
            omega
      refine ⟨1, gw2 q 231 r (q.2 231 r - 1), ?_, GW_tr (GW_fz w2) G, ?_, .inr ⟨rfl, ?_⟩⟩
      · unfold gm_170_70
        rfl
      · obtain ⟨k1, k2, k3⟩ := F2
        exact ⟨fun j hj => by rw [yo 225 j (by decide)]; exact k1 j hj, fun c hc => by rw [yo 229 c (by decide), yo 230 c (by decide)]; exact k2 c hc, k3⟩
      · have a := sg_updn (f := fun r => ((u.2 231 r).toNat : Int)) (g := fun j => (((gw2 q 231 r (q.2 231 r - 1)).2 231 j).toNat : Int)) (i := r) (n := 8) (x := -1) (by omega) (by
          show (((gw2 q 231 r (q.2 231 r - 1)).2 231 r).toNat : Int) = ((u.2 231 r).toNat : Int) + -1
          rw [y, if_pos rfl]
          omega) (fun d h1 h2 => by
          show (((gw2 q 231 r (q.2 231 r - 1)).2 231 d).toNat : Int) = ((u.2 231 d).toNat : Int)
          rw [y, if_neg h2, Int.sub_zero])
        have b : tw u = tw s := by
          unfold tw
          rw [w2.2]
        show sg _ 8 + 1 ≤ _
        rw [a, ← b]
        show tw u + -1 + 1 ≤ tw u
        omega
theorem sl_170_10 {R m : Nat} (k : Int → gx_S → Option gx_S) : ∀ (n r : Nat) (x1 : Int) (s : gx_S), R < n + r → r ≤ R → RK s R m → WB s → (x1 = 0 ∨ x1 = 1) → ∃ (x : Int) (u : gx_S), gm_170_10 k n x1 r s = k x u ∧ GW s u ∧ RK u R m ∧ ((x = x1 ∧ fz s u ∧ ∀ r', r ≤ r' → r' < R → 0 < u.2 231 r' → SK u r' R m) ∨ (x = 1 ∧ tw u + 1 ≤ tw s)) := by
  intro n
  induction n with
  | zero => intro r x1 s h; omega
  | succ n ih =>
    intro r x1 s h hr K W hx
    have R8 : R ≤ 8 := K.2.2.2.2.1
    rw [gm_170_10, K.2.2.1, if_pos (by omega), if_pos (by omega)]
    by_cases e : r = R
    · rw [if_pos (by omega)]
      exact ⟨x1, s, rfl, GW_fz ⟨fun _ _ _ => rfl, rfl⟩, K, .inl ⟨rfl, ⟨fun _ _ _ => rfl, rfl⟩, fun r' h1 h2 => by omega⟩⟩
    · rw [if_neg (by omega)]
      obtain ⟨x, u, w1, w2, w3, w4⟩ := sp_170_20 (gm_170_10 k n) x1 (show r < R by omega) K W
      rw [w1]
      have tu := GW_tw w2
      obtain ⟨x', u', v1, v2, v3, v4⟩ := ih (r + 1) x u (by omega) (by omega) w3 (GW_WB w2 W) (by rcases w4 with a | a <;> omega)
      rw [v1]
      refine ⟨x', u', rfl, GW_tr w2 v2, v3, ?_⟩
      have tv := GW_tw v2
      rcases v4 with ⟨p1, p2, p3⟩ | ⟨p1, p2⟩
      · rcases w4 with ⟨q1, q2, q3⟩ | ⟨q1, q2⟩
        · refine .inl ⟨by omega, fz_tr q2 p2, fun r' h1 h2 h3 => ?_⟩
          by_cases e' : r' = r
          · rw [e'] at h3 ⊢
            rw [p2.2] at h3
            exact SK_fz p2 (q3 h3)
          · exact p3 r' (by omega) h2 h3
        · exact .inr ⟨by omega, by omega⟩
      · exact .inr ⟨p1, by omega⟩
theorem sl_170_2 {R m : Nat} : ∀ (n : Nat) (s : gx_S), tw s + 1 < n → RK s R m → WB s → ∃ u : gx_S, gm_170_2 n 1 s = some u ∧ GW s u ∧ RK u R m ∧ ∀ r, r < R → 0 < u.2 231 r → SK u r R m := by
  intro n
  induction n with
  | zero =>
    intro s h
    have : 0 ≤ tw s := sg_nn fun k _ => by show (0 : Int) ≤ ((s.2 231 k).toNat : Int); omega
    omega
  | succ n ih =>
    intro s h K W
    have R8 : R ≤ 8 := K.2.2.2.2.1
    obtain ⟨x, u, w1, w2, w3, w4⟩ := sl_170_10 (gm_170_2 n) 100000 0 0 s (by omega) (by omega) K W (.inl rfl)
    have w1 : gm_170_10 (gm_170_2 n) 100000 0 0 s = gm_170_2 n x u := w1
    rw [gm_170_2, if_pos (by decide), if_neg (by decide), w1]
    rcases w4 with ⟨p1, p2, p3⟩ | ⟨p1, p2⟩
    · have : 0 ≤ tw s := sg_nn fun k _ => by show (0 : Int) ≤ ((s.2 231 k).toNat : Int); omega
      obtain ⟨n', e⟩ : ∃ n', n = n' + 1 := ⟨n - 1, by omega⟩
      rw [p1, e, gm_170_2, if_pos (by decide), if_pos rfl]
      exact ⟨u, rfl, w2, w3, fun r hr => p3 r (by omega) hr⟩
    · rw [p1]
      obtain ⟨v, v1, v2, v3, v4⟩ := ih u (by omega) w3 (GW_WB w2 W)
      exact ⟨v, v1, GW_tr w2 v2, v3, v4⟩
theorem sp_170 {R m : Nat} {s : gx_S} (K : RK s R m) (W : WB s) : ∃ u : gx_S, gm_170 s = some u ∧ GW s u ∧ RK u R m ∧ ∀ r, r < R → 0 < u.2 231 r → SK u r R m := by
  refine sl_170_2 100000 s ?_ K W
  have a : tw s ≤ 8000 := sg_le (g := fun _ => 1000) fun k hk => by
    have := W k hk
    show ((s.2 231 k).toNat : Int) ≤ 1000
    omega
  show tw s + 1 < 100000
  omega
end
section
/-! THE REFERENCE's BALANCED TABLE: canBe's loops -/
theorem sg_dcut {f g : Nat → Int} {m : Nat} : ∀ {n : Nat}, m ≤ n → (∀ k, m ≤ k → k < n → f k = g k) → sg f n - sg g n = sg f m - sg g m := by
  intro n
  induction n with
  | zero =>
    intro h _
    rw [show m = 0 by omega]
  | succ n ih =>
    intro h e
    by_cases q : m = n + 1
    · rw [q]
    · have a := ih (by omega) fun k h1 h2 => e k h1 (by omega)
      have b := e n (by omega) (by omega)
      show sg f n + f n - (sg g n + g n) = _
      omega
theorem sg_cut0 {f : Nat → Int} {m n : Nat} (h : m ≤ n) (e : ∀ k, m ≤ k → k < n → f k = 0) : sg f n = sg f m := by
  have a := sg_dcut (f := f) (g := fun _ => 0) h e
  rw [sg_0 (f := fun _ => 0) fun _ _ => rfl, sg_0 (f := fun _ => 0) fun _ _ => rfl] at a
  omega
theorem cut_eq {y : Nat → Nat → Int} {R C : Nat → Bool} {m n : Nat} (h1 : ∀ r c, r < m → c < n → R r = true → C c = false → y r c ≤ 0) (h2 : ∀ r c, r < m → c < n → R r = false → C c = true → 0 ≤ y r c) (h3 : ∀ r, r < m → R r = true → 0 ≤ sg (fun c => y r c) n) (h4 : ∀ c, c < n → C c = true → sg (fun r => y r c) m ≤ 0) : (∀ r, r < m → R r = true → sg (fun c => y r c) n = 0) ∧ ∀ c, c < n → C c = true → sg (fun r => y r c) m = 0 := by
  have a := cut_le h1 h2
  have p1 : ∀ k, k < m → 0 ≤ (if R k = true then sg (fun c => y k c) n else 0) := fun k hk => by
    by_cases q : R k = true
    · rw [if_pos q]; exact h3 k hk q
    · rw [if_neg q]; omega
  have p2 : ∀ k, k < n → 0 ≤ (if C k = true then - sg (fun r => y r k) m else 0) := fun k hk => by
    by_cases q : C k = true
    · rw [if_pos q]; have := h4 k hk q; omega
    · rw [if_neg q]; omega
  have e : sg (fun c => if C c = true then - sg (fun r => y r c) m else 0) n = - sg (fun c => if C c = true then sg (fun r => y r c) m else 0) n := by
    rw [← sg_neg]
    exact sg_eq fun c _ => by
      show (if _ then _ else (0 : Int)) = - (if _ then _ else (0 : Int))
      by_cases q : C c = true
      · rw [if_pos q, if_pos q]
      · rw [if_neg q, if_neg q]
        rfl
  have n1 := sg_nn p1
  have n2 := sg_nn p2
  refine ⟨fun r hr q => ?_, fun c hc q => ?_⟩
  · have b := sg_at p1 r hr
    rw [if_pos q] at b
    have := h3 r hr q
    omega
  · have b := sg_at p2 c hc
    rw [if_pos q] at b
    have := h4 c hc q
    omega
/-- the ranges alone -/
def RB (s : gx_S) (R m : Nat) : Prop := (∀ j, j < 72 → (s.1 232 j = 0 ∨ s.1 232 j = 1) ∧ (s.1 233 j = 0 ∨ s.1 233 j = 1) ∧ (0 ≤ s.2 225 j ∧ s.2 225 j ≤ 1000000000)) ∧ (∀ c, c < 9 → (s.1 235 c = 0 ∨ s.1 235 c = 1) ∧ -900 ≤ s.2 229 c ∧ s.2 229 c ≤ 900 ∧ -1000 ≤ s.2 230 c ∧ s.2 230 c ≤ 1000) ∧ s.1 215 17 = R ∧ s.1 215 18 = m ∧ R ≤ 8 ∧ m ≤ 9
theorem RK_RB {s : gx_S} {R m : Nat} (K : RK s R m) : RB s R m := ⟨fun j hj => ⟨(K.1 j hj).1, (K.1 j hj).2.1, (K.1 j hj).2.2.1⟩, K.2⟩
theorem RB_RK {s : gx_S} {R m : Nat} (K : RB s R m) (h : ∀ r c, r < R → c < m → s.1 232 (9 * r + c) = 1 → 0 < s.2 225 (9 * r + c)) : RK s R m := by
  refine ⟨fun j hj => ⟨(K.1 j hj).1, (K.1 j hj).2.1, (K.1 j hj).2.2, fun a b d => ?_⟩, K.2⟩
  rw [K.2.2.1] at b
  rw [K.2.2.2.1] at d
  have e : 9 * (j / 9) + j % 9 = j := by omega
  have x := h (j / 9) (j % 9) (by omega) (by omega)
  rw [e] at x
  exact x a
/-- T comes right; T agrees with what is fixed -/
def FEr (s : gx_S) (R m : Nat) (T : Nat → Int) : Prop := (∀ r c, r < R → c < m → (T (9 * r + c) = 0 ∨ T (9 * r + c) = 1) ∧ (T (9 * r + c) = 1 → 0 < s.2 225 (9 * r + c))) ∧ (∀ r, r < R → sg (fun c => T (9 * r + c)) m = s.2 226 r) ∧ ∀ c, c < m → s.2 227 c ≤ sg (fun r => T (9 * r + c)) R ∧ sg (fun r => T (9 * r + c)) R ≤ s.2 228 c
def AGr (s : gx_S) (R m : Nat) (T : Nat → Int) : Prop := ∀ r c, r < R → c < m → s.1 233 (9 * r + c) = 1 → T (9 * r + c) = s.1 234 (9 * r + c)
/-- only on, seen, limit, filled, wanted change -/
def cb (s t : gx_S) : Prop := (∀ k j, k ≠ 232 → k ≠ 235 → t.1 k j = s.1 k j) ∧ ∀ k j, k ≠ 229 → k ≠ 230 → k ≠ 231 → t.2 k j = s.2 k j
theorem cb_rf (s : gx_S) : cb s s := ⟨fun _ _ _ _ => rfl, fun _ _ _ _ _ => rfl⟩
theorem cb_tr {s t u : gx_S} (a : cb s t) (b : cb t u) : cb s u := ⟨fun k j h1 h2 => (b.1 k j h1 h2).trans (a.1 k j h1 h2), fun k j h1 h2 h3 => (b.2 k j h1 h2 h3).trans (a.2 k j h1 h2 h3)⟩
theorem cb_GW {s t : gx_S} (a : GW s t) : cb s t := ⟨a.1, fun k j _ h1 h2 => a.2.1 k j h1 h2⟩
theorem sl_171_2 {R : Nat} (R8 : R ≤ 8) : ∀ (n r : Nat) (s : gx_S), R < n + r → r ≤ R → s.1 215 17 = R → ∃ u : gx_S, gm_171_2 n r s = gm_171_30 100000 0 u ∧ u.1 = s.1 ∧ (∀ k j, k ≠ 231 → u.2 k j = s.2 k j) ∧ ∀ j, u.2 231 j = if r ≤ j ∧ j < R then s.2 226 j else s.2 231 j := by
  intro n
  induction n with
  | zero => intro r s h; omega
  | succ n ih =>
    intro r s h hr e
    by_cases q : r = R
    · refine ⟨s, ?_, rfl, fun _ _ _ => rfl, fun j => by rw [if_neg (by omega)]⟩
      rw [gm_171_2, e]
      simp (disch := omega) only [if_pos]
    · have i5 : ((r : Int)).toNat = r := by omega
      have ce : ((r : Int) + 1) = ((r + 1 : Nat) : Int) := rfl
      obtain ⟨u, u1, u2, u3, u4⟩ := ih (r + 1) (gw2 s 231 r (s.2 226 r)) (by omega) (by omega) e
      refine ⟨u, ?_, u2, fun k j h => (u3 k j h).trans (if_neg fun x => h x.1), fun j => ?_⟩
      · rw [← u1, gm_171_2, e]
        simp (disch := omega) only [if_pos, if_neg, i5, ce]
      · rw [u4, gw2_2, gw2_2]
        by_cases q' : j = r
        · rw [if_neg (show ¬ (r + 1 ≤ j ∧ j < R) by omega), if_pos ⟨rfl, q'⟩, if_pos (show r ≤ j ∧ j < R by omega), q']
        · by_cases q2 : r + 1 ≤ j ∧ j < R
          · rw [if_pos q2, if_neg (show ¬ (226 = 231 ∧ j = r) by omega), if_pos (show r ≤ j ∧ j < R by omega)]
          · rw [if_neg q2, if_neg (fun x => q' x.2), if_neg (by omega)]
theorem sl_171_30 {m : Nat} (m9 : m ≤ 9) : ∀ (n c : Nat) (s : gx_S), m < n + c → c ≤ m → s.1 215 18 = m → ∃ u : gx_S, gm_171_30 n c s = gm_171_65 100000 0 u ∧ u.1 = s.1 ∧ (∀ k j, k ≠ 229 → k ≠ 230 → u.2 k j = s.2 k j) ∧ (∀ j, u.2 229 j = if c ≤ j ∧ j < m then s.2 227 j else s.2 229 j) ∧ ∀ j, u.2 230 j = if c ≤ j ∧ j < m then 0 else s.2 230 j := by
  intro n
  induction n with
  | zero => intro c s h; omega
  | succ n ih =>
    intro c s h hc e
    by_cases q : c = m
    · refine ⟨s, ?_, rfl, fun _ _ _ _ => rfl, fun j => by rw [if_neg (by omega)], fun j => by rw [if_neg (by omega)]⟩
      rw [gm_171_30, e]
      simp (disch := omega) only [if_pos]
    · have i5 : ((c : Int)).toNat = c := by omega
      have ce : ((c : Int) + 1) = ((c + 1 : Nat) : Int) := rfl
      obtain ⟨u, u1, u2, u3, u4, u5⟩ := ih (c + 1) (gw2 (gw2 s 230 c 0) 229 c ((gw2 s 230 c 0).2 227 c)) (by omega) (by omega) e
      have x7 : (gw2 s 230 c 0).2 227 c = s.2 227 c := by rw [gw2_2, if_neg (by omega)]
      refine ⟨u, ?_, u2, fun k j h h' => (u3 k j h h').trans (by rw [gw2_2, if_neg (fun x => h x.1), gw2_2, if_neg (fun x => h' x.1)]), fun j => ?_, fun j => ?_⟩
      · rw [← u1, gm_171_30, e]
        simp (disch := omega) only [if_pos, if_neg, i5, ce]
      · rw [u4]
        have y7 : (gw2 (gw2 s 230 c 0) 229 c ((gw2 s 230 c 0).2 227 c)).2 227 j = s.2 227 j := by rw [gw2_2, if_neg (by omega), gw2_2, if_neg (by omega)]
        have y9 : (gw2 (gw2 s 230 c 0) 229 c ((gw2 s 230 c 0).2 227 c)).2 229 j = if j = c then s.2 227 c else s.2 229 j := by
          rw [gw2_2]
          by_cases q' : j = c
          · rw [if_pos ⟨rfl, q'⟩, if_pos q', x7]
          · rw [if_neg (fun x => q' x.2), if_neg q', gw2_2, if_neg (by omega)]
        rw [y7, y9]
        by_cases q' : j = c
        · rw [if_neg (by omega), if_pos q', if_pos (by omega), q']
        · by_cases q2 : c + 1 ≤ j ∧ j < m
          · rw [if_pos q2, if_pos (by omega)]
          · rw [if_neg q2, if_neg q', if_neg (by omega)]
      · rw [u5]
        have y9 : (gw2 (gw2 s 230 c 0) 229 c ((gw2 s 230 c 0).2 227 c)).2 230 j = if j = c then 0 else s.2 230 j := by
          rw [gw2_2, if_neg (show ¬ (230 = 229 ∧ j = c) by omega), gw2_2]
          by_cases q' : j = c
          · rw [if_pos ⟨rfl, q'⟩, if_pos q']
          · rw [if_neg (fun x => q' x.2), if_neg q']
        rw [y9]
        by_cases q' : j = c
        · rw [if_neg (by omega), if_pos q', if_pos (by omega)]
        · by_cases q2 : c + 1 ≤ j ∧ j < m
          · rw [if_pos q2, if_pos (by omega)]
          · rw [if_neg q2, if_neg q', if_neg (by omega)]
/-- what the fixed ones put on -/
def vl (s : gx_S) (j : Nat) : Int := if s.1 233 j = 0 then 0 else if s.1 234 j = 0 then 0 else 1
theorem vl_01 (s : gx_S) (j : Nat) : vl s j = 0 ∨ vl s j = 1 := by
  unfold vl
  split
  · exact .inl rfl
  · split
    · exact .inl rfl
    · exact .inr rfl
/-- cell (x, y) comes before (r, c) -/
abbrev ev (r c x y : Nat) : Prop := x < r ∨ (x = r ∧ y < c)
def JC (s0 s : gx_S) (R m r c : Nat) : Prop := cb s0 s ∧ (∀ j, s.1 235 j = s0.1 235 j) ∧ (∀ j, s.2 229 j = s0.2 229 j) ∧ (∀ x, x < R → s.2 231 x = s0.2 231 x - sg (fun y => if ev r c x y then vl s0 (9 * x + y) else 0) m) ∧ (∀ x, R ≤ x → s.2 231 x = s0.2 231 x) ∧ (∀ y, y < m → s.2 230 y = s0.2 230 y + sg (fun x => if ev r c x y then vl s0 (9 * x + y) else 0) R) ∧ (∀ y, m ≤ y → s.2 230 y = s0.2 230 y) ∧ (∀ x y, x < R → y < m → ev r c x y → s.1 232 (9 * x + y) = vl s0 (9 * x + y)) ∧ ∀ j, j < 72 → s.1 232 j = s0.1 232 j ∨ s.1 232 j = 0 ∨ s.1 232 j = 1
/-- the entry is set -/
def seta (s : gx_S) (r c : Nat) (v : Int) : gx_S := gw2 (gw2 (gw1 s 232 (9 * r + c) v) 231 r (s.2 231 r - v)) 230 c (s.2 230 c + v)
theorem se_171_123 (k : Int → Int → gx_S → Option (Bool × gx_S)) {s : gx_S} {r c : Nat} {v : Int} (hr : r < 8) (hc : c < 9) (hv : v = 0 ∨ v = 1) : gm_171_123 k r c (9 * (r : Int) + (c : Int)) v s = k r ((c + 1 : Nat) : Int) (seta s r c v) := by
  have i1 : ((9 * (r : Int) + (c : Int))).toNat = 9 * r + c := by omega
  have i5 : ((c : Int)).toNat = c := by omega
  have i6 : ((r : Int)).toNat = r := by omega
  have ce : ((c : Int) + 1) = ((c + 1 : Nat) : Int) := rfl
  have gv : gn2 v = v := by rcases hv with h | h <;> rw [h] <;> decide
  have h72 : 0 ≤ 9 * (r : Int) + (c : Int) ∧ 9 * (r : Int) + (c : Int) < 72 := by omega
  have h8 : 0 ≤ (r : Int) ∧ (r : Int) < 8 := by omega
  have h9 : 0 ≤ (c : Int) ∧ (c : Int) < 9 := by omega
  have hv' : -2147483648 ≤ v ∧ v ≤ 2147483647 := by omega
  have x1 : (gw1 s 232 (9 * r + c) v).1 232 (9 * r + c) = v := if_pos ⟨rfl, rfl⟩
  unfold gm_171_123
  rw [if_pos h72, if_pos h8, sp_160, Option.bind_some, if_pos h72]
  show ((gm_131 ((gw1 s 232 (9 * (r : Int) + (c : Int)).toNat (gn2 v)).1 232 (9 * (r : Int) + (c : Int)).toNat) (gw1 s 232 (9 * (r : Int) + (c : Int)).toNat (gn2 v))).bind _) = _
  rw [i1, gv, x1, sp_131 hv, Option.bind_some, if_pos hv', if_pos h9, sp_160, Option.bind_some, if_pos h72]
  show ((gm_131 ((gw1 s 232 (9 * r + c) v).1 232 (9 * (r : Int) + (c : Int)).toNat) (gw2 (gw1 s 232 (9 * r + c) v) 231 (r : Int).toNat (s.2 231 (r : Int).toNat - v))).bind _) = _
  rw [i1, i6, x1, sp_131 hv, Option.bind_some, if_pos hv', i5, ce]
  rfl
end
section
/-! THE REFERENCE's BALANCED TABLE: canBe's tables and checks -/
theorem seta_on (s : gx_S) (r c : Nat) (v : Int) (j : Nat) : (seta s r c v).1 232 j = if j = 9 * r + c then v else s.1 232 j := by
  show (if _ then _ else _) = _
  by_cases e : j = 9 * r + c
  · rw [if_pos ⟨rfl, e⟩, if_pos e]
  · rw [if_neg (fun h => e h.2), if_neg e]
theorem seta_1 (s : gx_S) (r c : Nat) (v : Int) (k j : Nat) (h : k ≠ 232) : (seta s r c v).1 k j = s.1 k j := if_neg fun x => h x.1
theorem seta_w (s : gx_S) (r c : Nat) (v : Int) (j : Nat) : (seta s r c v).2 231 j = s.2 231 j - if j = r then v else 0 := by
  show (gw2 (gw2 (gw1 s 232 (9 * r + c) v) 231 r (s.2 231 r - v)) 230 c (s.2 230 c + v)).2 231 j = _
  rw [gw2_2, if_neg (show ¬ (231 = 230 ∧ j = c) by omega), gw2_2, gw1_2]
  by_cases e : j = r
  · rw [if_pos ⟨rfl, e⟩, if_pos e, e]
  · rw [if_neg (fun h => e h.2), if_neg e]
    exact (Int.sub_zero _).symm
theorem seta_f (s : gx_S) (r c : Nat) (v : Int) (j : Nat) : (seta s r c v).2 230 j = s.2 230 j + if j = c then v else 0 := by
  show (gw2 (gw2 (gw1 s 232 (9 * r + c) v) 231 r (s.2 231 r - v)) 230 c (s.2 230 c + v)).2 230 j = _
  rw [gw2_2]
  by_cases e : j = c
  · rw [if_pos ⟨rfl, e⟩, if_pos e, e]
  · rw [if_neg (fun h => e h.2), gw2_2, gw1_2, if_neg (by omega), if_neg e]
    exact (Int.add_zero _).symm
theorem seta_2 (s : gx_S) (r c : Nat) (v : Int) (k j : Nat) (h : k ≠ 230) (h' : k ≠ 231) : (seta s r c v).2 k j = s.2 k j := (if_neg fun x => h x.1).trans (if_neg fun x => h' x.1)
theorem JC_step {s0 s : gx_S} {R m r c : Nat} (hr : r < R) (hc : c < m) (m9 : m ≤ 9) (J : JC s0 s R m r c) : JC s0 (seta s r c (vl s0 (9 * r + c))) R m r (c + 1) := by
  obtain ⟨j1, j2, j3, j4, j5, j6, j7, j8, j9⟩ := J
  have e0 : ¬ ev r c r c := by unfold ev; omega
  have e1 : ev r (c + 1) r c := by unfold ev; omega
  have eo : ∀ x y, ¬ (x = r ∧ y = c) → (ev r (c + 1) x y ↔ ev r c x y) := fun x y h => by unfold ev; omega
  have io : ∀ (x y : Nat) (v : Int), ¬ (x = r ∧ y = c) → (if ev r (c + 1) x y then v else 0) = if ev r c x y then v else 0 := fun x y v h => by
    by_cases q : ev r c x y
    · rw [if_pos q, if_pos ((eo x y h).mpr q)]
    · rw [if_neg q, if_neg (fun z => q ((eo x y h).mp z))]
  refine ⟨cb_tr j1 ⟨fun k j h _ => seta_1 s r c _ k j h, fun k j _ h h' => seta_2 s r c _ k j h h'⟩, fun j => (seta_1 s r c _ 235 j (by decide)).trans (j2 j), fun j => (seta_2 s r c _ 229 j (by decide) (by decide)).trans (j3 j), fun x hx => ?_, fun x hx => ?_, fun y hy => ?_, fun y hy => ?_, fun x y hx hy h => ?_, fun j hj => ?_⟩
  · rw [seta_w, j4 x hx]
    by_cases e : x = r
    · rw [if_pos e, e, sg_updn (f := fun y => if ev r c r y then vl s0 (9 * r + y) else 0) (g := fun y => if ev r (c + 1) r y then vl s0 (9 * r + y) else 0) (i := c) (x := vl s0 (9 * r + c)) hc (by
        show (if _ then _ else _) = (if _ then _ else _) + _
        rw [if_pos e1, if_neg e0]
        omega) fun d _ h2 => io r d _ (by omega)]
      omega
    · rw [if_neg e, sg_eq (f := fun y => if ev r (c + 1) x y then vl s0 (9 * x + y) else 0) (g := fun y => if ev r c x y then vl s0 (9 * x + y) else 0) fun d _ => io x d _ (by omega)]
      omega
  · rw [seta_w, if_neg (by omega), j5 x hx]
    exact Int.sub_zero _
  · rw [seta_f, j6 y hy]
    by_cases e : y = c
    · rw [if_pos e, e, sg_updn (f := fun x => if ev r c x c then vl s0 (9 * x + c) else 0) (g := fun x => if ev r (c + 1) x c then vl s0 (9 * x + c) else 0) (i := r) (x := vl s0 (9 * r + c)) hr (by
        show (if _ then _ else _) = (if _ then _ else _) + _
        rw [if_pos e1, if_neg e0]
        omega) fun d _ h2 => io d c _ (by omega)]
      omega
    · rw [if_neg e, sg_eq (f := fun x => if ev r (c + 1) x y then vl s0 (9 * x + y) else 0) (g := fun x => if ev r c x y then vl s0 (9 * x + y) else 0) fun d _ => io d y _ (by omega)]
      omega
  · rw [seta_f, if_neg (by omega), j7 y hy]
    exact Int.add_zero _
  · rw [seta_on]
    by_cases e : x = r ∧ y = c
    · rw [if_pos (by omega), e.1, e.2]
    · rw [if_neg (by omega)]
      exact j8 x y hx hy ((eo x y e).mp h)
  · rw [seta_on]
    by_cases e : j = 9 * r + c
    · rw [if_pos e]
      exact .inr (vl_01 s0 _)
    · rw [if_neg e]
      exact j9 j hj
theorem JC_row {s0 s : gx_S} {R m r : Nat} (J : JC s0 s R m r m) : JC s0 s R m (r + 1) 0 := by
  obtain ⟨j1, j2, j3, j4, j5, j6, j7, j8, j9⟩ := J
  have eo : ∀ x y, y < m → (ev (r + 1) 0 x y ↔ ev r m x y) := fun x y h => by unfold ev; omega
  have io : ∀ (x y : Nat) (v : Int), y < m → (if ev r m x y then v else 0) = if ev (r + 1) 0 x y then v else 0 := fun x y v h => by
    by_cases q : ev r m x y
    · rw [if_pos q, if_pos ((eo x y h).mpr q)]
    · rw [if_neg q, if_neg (fun z => q ((eo x y h).mp z))]
  refine ⟨j1, j2, j3, fun x hx => ?_, j5, fun y hy => ?_, j7, fun x y hx hy h => j8 x y hx hy ((eo x y hy).mp h), j9⟩
  · rw [j4 x hx, sg_eq (g := fun y => if ev (r + 1) 0 x y then vl s0 (9 * x + y) else 0) fun d hd => io x d _ hd]
  · rw [j6 y hy, sg_eq (g := fun x => if ev (r + 1) 0 x y then vl s0 (9 * x + y) else 0) fun d _ => io d y _ hy]
theorem se_171_75 (k : Int → gx_S → Option (Bool × gx_S)) {s : gx_S} {m r c : Nat} (n : Nat) (hr : r < 8) (hc : c < m) (m9 : m ≤ 9) (h18 : s.1 215 18 = m) (h3 : s.1 233 (9 * r + c) = 0 ∨ s.1 233 (9 * r + c) = 1) (h4 : s.1 234 (9 * r + c) = 0 ∨ s.1 234 (9 * r + c) = 1) : gm_171_75 k (n + 1) r c s = gm_171_75 k n r ((c + 1 : Nat) : Int) (seta s r c (vl s (9 * r + c))) := by
  have i1 : ((9 * (r : Int) + (c : Int))).toNat = 9 * r + c := by omega
  have hx : (-2147483648 ≤ (c : Int) ∧ (c : Int) ≤ 2147483647) := by omega
  have hm : (-2147483648 ≤ (m : Int) ∧ (m : Int) ≤ 2147483647) := by omega
  have hn : ¬ (m : Int) ≤ (c : Int) := by omega
  have h72 : 0 ≤ 9 * (r : Int) + (c : Int) ∧ 9 * (r : Int) + (c : Int) < 72 := by omega
  have g3 : -2147483648 ≤ s.1 233 (9 * r + c) ∧ s.1 233 (9 * r + c) ≤ 2147483647 := by omega
  have g4 : -2147483648 ≤ s.1 234 (9 * r + c) ∧ s.1 234 (9 * r + c) ≤ 2147483647 := by omega
  rw [gm_171_75, h18, if_pos hx, if_pos hm, if_neg hn, sp_160, Option.bind_some]
  show ((gm_160 r c s).bind _) = _
  rw [sp_160, Option.bind_some, if_pos h72]
  show (if (-2147483648 ≤ s.1 233 (9 * (r : Int) + (c : Int)).toNat ∧ s.1 233 (9 * (r : Int) + (c : Int)).toNat ≤ 2147483647) then _ else _) = _
  rw [i1, if_pos g3]
  by_cases z3 : s.1 233 (9 * r + c) = 0
  · rw [if_pos z3, se_171_123 _ hr (by omega) (.inl rfl), show vl s (9 * r + c) = 0 from if_pos z3]
  · rw [if_neg z3]
    show ((gm_160 r c s).bind _) = _
    rw [sp_160, Option.bind_some, if_pos h72]
    show (if (-2147483648 ≤ s.1 234 (9 * (r : Int) + (c : Int)).toNat ∧ s.1 234 (9 * (r : Int) + (c : Int)).toNat ≤ 2147483647) then _ else _) = _
    rw [i1, if_pos g4]
    by_cases z4 : s.1 234 (9 * r + c) = 0
    · rw [if_pos z4, se_171_123 _ hr (by omega) (.inl rfl), show vl s (9 * r + c) = 0 from (if_neg z3).trans (if_pos z4)]
    · rw [if_neg z4, se_171_123 _ hr (by omega) (.inr rfl), show vl s (9 * r + c) = 1 from (if_neg z3).trans (if_neg z4)]
def C01 (s : gx_S) : Prop := ∀ j, j < 72 → (s.1 233 j = 0 ∨ s.1 233 j = 1) ∧ (s.1 234 j = 0 ∨ s.1 234 j = 1)
theorem vl_cb {s t : gx_S} (a : cb s t) (j : Nat) : vl t j = vl s j := by
  unfold vl
  rw [a.1 233 j (by omega) (by omega), a.1 234 j (by omega) (by omega)]
theorem sl_171_75 {s0 : gx_S} {R m r : Nat} (k : Int → gx_S → Option (Bool × gx_S)) (hr : r < R) (R8 : R ≤ 8) (m9 : m ≤ 9) (h18 : s0.1 215 18 = m) (h01 : C01 s0) : ∀ (n c : Nat) (s : gx_S), m < n + c → c ≤ m → JC s0 s R m r c → ∃ u : gx_S, gm_171_75 k n r c s = k ((r + 1 : Nat) : Int) u ∧ JC s0 u R m r m := by
  intro n
  induction n with
  | zero => intro c s h; omega
  | succ n ih =>
    intro c s h hc J
    have a := J.1
    have e18 : s.1 215 18 = m := (a.1 215 18 (by omega) (by omega)).trans h18
    by_cases q : c = m
    · refine ⟨s, ?_, q ▸ J⟩
      rw [gm_171_75, e18, q]
      have ce : ((r : Int) + 1) = ((r + 1 : Nat) : Int) := rfl
      simp (disch := omega) only [if_pos, ce]
    · rw [se_171_75 k n (by omega) (by omega) m9 e18 (by rw [a.1 233 _ (by omega) (by omega)]; exact (h01 _ (by omega)).1) (by rw [a.1 234 _ (by omega) (by omega)]; exact (h01 _ (by omega)).2), vl_cb a]
      exact ih (c + 1) _ (by omega) (by omega) (JC_step hr (by omega) m9 J)
theorem sl_171_65 {s0 : gx_S} {R m : Nat} (R8 : R ≤ 8) (m9 : m ≤ 9) (h17 : s0.1 215 17 = R) (h18 : s0.1 215 18 = m) (h01 : C01 s0) : ∀ (n r : Nat) (s : gx_S), R < n + r → r ≤ R → JC s0 s R m r 0 → ∃ u : gx_S, gm_171_65 n r s = ((gm_170 u).bind fun q => gm_171_188 100000 0 q) ∧ JC s0 u R m R 0 := by
  intro n
  induction n with
  | zero => intro c s h; omega
  | succ n ih =>
    intro r s h hr J
    have e17 : s.1 215 17 = R := (J.1.1 215 17 (by omega) (by omega)).trans h17
    by_cases q : r = R
    · refine ⟨s, ?_, q ▸ J⟩
      rw [gm_171_65, e17, q]
      simp (disch := omega) only [if_pos]
    · obtain ⟨u, u1, u2⟩ := sl_171_75 (gm_171_65 n) (show r < R by omega) R8 m9 h18 h01 100000 0 s (by omega) (by omega) J
      have u1 : gm_171_75 (gm_171_65 n) 100000 r 0 s = gm_171_65 n ((r + 1 : Nat) : Int) u := u1
      obtain ⟨v, v1, v2⟩ := ih (r + 1) u (by omega) (by omega) (JC_row u2)
      refine ⟨v, ?_, v2⟩
      rw [gm_171_65, e17, if_pos (by omega), if_pos (by omega), if_neg (by omega), u1, v1]
theorem sl_171_254 {R : Nat} {s : gx_S} (R8 : R ≤ 8) (h17 : s.1 215 17 = R) (W : WB s) : ∀ (n r : Nat), R < n + r → r ≤ R → ∃ v : Bool, gm_171_254 n r s = some (v, s) ∧ (v = true ↔ ∀ x, r ≤ x → x < R → s.2 231 x = 0) := by
  intro n
  induction n with
  | zero => intro r h; omega
  | succ n ih =>
    intro r h hr
    have i5 : ((r : Int)).toNat = r := by omega
    have ce : ((r : Int) + 1) = ((r + 1 : Nat) : Int) := rfl
    rw [gm_171_254, h17, if_pos (by omega), if_pos (by omega)]
    by_cases q : r = R
    · rw [if_pos (by omega)]
      exact ⟨true, rfl, fun _ x h1 h2 => absurd h2 (by omega), fun _ => rfl⟩
    · have w := W r (by omega)
      rw [if_neg (by omega), if_pos (by omega), i5, if_pos (by omega)]
      by_cases z : s.2 231 r = 0
      · rw [if_pos z, ce]
        obtain ⟨v, v1, v2⟩ := ih (r + 1) (by omega) (by omega)
        refine ⟨v, v1, fun h x h1 h2 => ?_, fun h => v2.mpr fun x h1 h2 => h x (by omega) h2⟩
        by_cases e : x = r
        · rw [e]; exact z
        · exact v2.mp h x (by omega) h2
      · rw [if_neg z]
        exact ⟨false, rfl, fun h => Bool.noConfusion h, fun h => absurd (h r (by omega) (by omega)) z⟩
def i64 (x : Int) : Prop := -9223372036854775808 ≤ x ∧ x ≤ 9223372036854775807
theorem sl_171_188 {m : Nat} (m9 : m ≤ 9) : ∀ (n c : Nat) (s : gx_S), m < n + c → c ≤ m → s.1 215 18 = m → (∀ j, j < 9 → i64 (s.2 230 j) ∧ i64 (s.2 227 j) ∧ i64 (s.2 228 j)) → ∃ u : gx_S, u.1 = s.1 ∧ (∀ k j, k ≠ 229 → u.2 k j = s.2 k j) ∧ (((∃ j, j < m ∧ ¬ (s.2 227 j ≤ s.2 230 j ∧ s.2 230 j ≤ s.2 228 j)) ∧ (∀ j, u.2 229 j = s.2 229 j ∨ (j < m ∧ u.2 229 j = s.2 228 j)) ∧ gm_171_188 n c s = some (false, u)) ∨ ((∀ j, c ≤ j → j < m → s.2 227 j ≤ s.2 230 j ∧ s.2 230 j ≤ s.2 228 j) ∧ (∀ j, u.2 229 j = if c ≤ j ∧ j < m then s.2 228 j else s.2 229 j) ∧ gm_171_188 n c s = ((gm_170 u).bind fun q => gm_171_254 100000 0 q))) := by
  intro n
  induction n with
  | zero => intro c s h; omega
  | succ n ih =>
    intro c s h hc e g
    have i5 : ((c : Int)).toNat = c := by omega
    have ce : ((c : Int) + 1) = ((c + 1 : Nat) : Int) := rfl
    rw [gm_171_188, e, if_pos (by omega), if_pos (by omega)]
    by_cases q : c = m
    · rw [if_pos (by omega)]
      exact ⟨s, rfl, fun _ _ _ => rfl, .inr ⟨fun j h1 h2 => by omega, fun j => by rw [if_neg (by omega)], rfl⟩⟩
    · obtain ⟨g0, g7, g8⟩ := g c (by omega)
      unfold i64 at g0 g7 g8
      rw [if_neg (by omega), if_pos (by omega), i5, if_pos g0, if_pos g7]
      by_cases z1 : s.2 230 c < s.2 227 c
      · rw [if_pos z1]
        exact ⟨s, rfl, fun _ _ _ => rfl, .inl ⟨⟨c, by omega, by omega⟩, fun j => .inl rfl, rfl⟩⟩
      · rw [if_neg z1, if_pos g8]
        by_cases z2 : s.2 230 c ≤ s.2 228 c
        · rw [if_pos z2, ce]
          have o : ∀ k j, k ≠ 229 → (gw2 s 229 c (s.2 228 c)).2 k j = s.2 k j := fun k j h => if_neg fun x => h x.1
          have o9 : ∀ j, (gw2 s 229 c (s.2 228 c)).2 229 j = if j = c then s.2 228 c else s.2 229 j := fun j => by
            show (if _ then _ else _) = _
            by_cases q' : j = c
            · rw [if_pos ⟨rfl, q'⟩, if_pos q']
            · rw [if_neg (fun x => q' x.2), if_neg q']
          obtain ⟨u, u1, u2, u3⟩ := ih (c + 1) (gw2 s 229 c (s.2 228 c)) (by omega) (by omega) e (fun j hj => by rw [o 230 j (by decide), o 227 j (by decide), o 228 j (by decide)]; exact g j hj)
          refine ⟨u, u1, fun k j h => (u2 k j h).trans (o k j h), ?_⟩
          rcases u3 with ⟨⟨j, p1, p2⟩, p3, p4⟩ | ⟨p1, p2, p3⟩
          · refine .inl ⟨⟨j, p1, ?_⟩, fun j => ?_, p4⟩
            · rw [o 230 j (by decide), o 227 j (by decide), o 228 j (by decide)] at p2
              exact p2
            · have a := p3 j
              rw [o9, o 228 j (by decide)] at a
              by_cases q' : j = c
              · rw [if_pos q', q'] at a
                rw [q']
                exact .inr ⟨by omega, by rcases a with a | a; exact a; exact a.2⟩
              · rw [if_neg q'] at a
                exact a
          · refine .inr ⟨fun j h1 h2 => ?_, fun j => ?_, p3⟩
            · by_cases q' : j = c
              · rw [q']; omega
              · have a := p1 j (by omega) h2
                rw [o 230 j (by decide), o 227 j (by decide), o 228 j (by decide)] at a
                exact a
            · rw [p2 j, o9, o 228 j (by decide)]
              by_cases q' : j = c
              · rw [if_neg (by omega), if_pos q', if_pos (by omega), q']
              · by_cases q2 : c + 1 ≤ j ∧ j < m
                · rw [if_pos q2, if_pos (by omega)]
                · rw [if_neg q2, if_neg q', if_neg (by omega)]
        · rw [if_neg z2]
          exact ⟨s, rfl, fun _ _ _ => rfl, .inl ⟨⟨c, by omega, by omega⟩, fun j => .inl rfl, rfl⟩⟩
end
