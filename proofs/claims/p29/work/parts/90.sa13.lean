/-! FIT: the rows of weights, one by one; the best of them -/
def bsz (X : Nat → Nat → Int) (l : Nat) : Nat := if 0 < LC X l then 10 else 1
def zq (X : Nat → Nat → Int) : Nat → Nat
  | 0 => 1
  | d + 1 => bsz X (3 - d) * zq X d
theorem bsz_r (X : Nat → Nat → Int) (l : Nat) : 1 ≤ bsz X l ∧ bsz X l ≤ 10 := by
  unfold bsz
  split <;> omega
theorem zq_r (X : Nat → Nat → Int) : ∀ d : Nat, 1 ≤ zq X d ∧ zq X d ≤ 10 ^ d := by
  intro d
  induction d with
  | zero => exact ⟨Nat.le_refl 1, Nat.le_refl 1⟩
  | succ d ih =>
    have b := bsz_r X (3 - d)
    refine ⟨Nat.mul_pos b.1 ih.1, ?_⟩
    show bsz X (3 - d) * zq X d ≤ 10 ^ (d + 1)
    rw [Nat.pow_succ, Nat.mul_comm (10 ^ d)]
    exact Nat.mul_le_mul b.2 ih.2
theorem zq_dvd (X : Nat → Nat → Int) {a : Nat} : ∀ {b : Nat}, a ≤ b → zq X a ∣ zq X b := by
  intro b
  induction b with
  | zero => intro h; rw [show a = 0 by omega]; exact Nat.dvd_refl _
  | succ b ih =>
    intro h
    by_cases e : a = b + 1
    · rw [e]; exact Nat.dvd_refl _
    · exact Nat.dvd_trans (ih (by omega)) ⟨bsz X (3 - b), Nat.mul_comm _ _⟩
/-- the row e: by what the lands' digits are -/
def RE (X : Nat → Nat → Int) (o : Nat → Int) (e l : Nat) : Int := if 0 < LC X l then ((e / zq X (3 - l) % 10 : Nat) : Int) else o l
theorem RE_B (X : Nat → Nat → Int) {o : Nat → Int} (ho : wB9 o) (e : Nat) : wB9 (RE X o e) := fun l hl => by
  unfold RE
  split
  · omega
  · exact ho l hl
theorem RE_z {X : Nat → Nat → Int} {o : Nat → Int} {l : Nat} (h : ¬ 0 < LC X l) (e : Nat) : RE X o e l = o l := if_neg h
theorem RE_0 {X : Nat → Nat → Int} {o : Nat → Int} {l : Nat} (h : 0 < LC X l) : RE X o 0 l = 0 := by
  unfold RE
  rw [if_pos h, Nat.zero_div]
  rfl
theorem sdv {e T : Nat} (hT : 0 < T) (h : ¬ T ∣ e + 1) : (e + 1) / T = e / T := by
  have a := Nat.div_add_mod e T
  have b := Nat.mod_lt e hT
  have c : e % T + 1 ≠ T := fun q => h ⟨e / T + 1, by rw [Nat.mul_add, Nat.mul_one]; omega⟩
  have d : e + 1 = T * (e / T) + (e % T + 1) := by omega
  have f : (T * (e / T) + (e % T + 1)) / T = e / T := by rw [Nat.mul_add_div hT, Nat.div_eq_of_lt (show e % T + 1 < T by omega), Nat.add_zero]
  rw [← d] at f
  exact f
theorem RE_up {X : Nat → Nat → Int} {o : Nat → Int} {e l : Nat} (hl : l < 4) (hL : 0 < LC X l) (hc : zq X (3 - l) ∣ e + 1) : (RE X o e l < 9 → RE X o (e + 1) l = RE X o e l + 1 ∧ ∀ j, j < l → RE X o (e + 1) j = RE X o e j) ∧ (¬ RE X o e l < 9 → RE X o (e + 1) l = 0 ∧ zq X (4 - l) ∣ e + 1) := by
  have hs := (zq_r X (3 - l)).1
  have e4 : zq X (4 - l) = 10 * zq X (3 - l) := by
    rw [show 4 - l = (3 - l) + 1 by omega]
    show bsz X (3 - (3 - l)) * _ = _
    rw [show 3 - (3 - l) = l by omega]
    unfold bsz
    rw [if_pos hL]
  obtain ⟨m, hm⟩ := hc
  have m0 : 0 < m := by
    rcases Nat.eq_zero_or_pos m with q | q
    · rw [q, Nat.mul_zero] at hm; omega
    · exact q
  obtain ⟨m, rfl⟩ : ∃ k, m = k + 1 := ⟨m - 1, by omega⟩
  have d1 : (e + 1) / zq X (3 - l) = m + 1 := by rw [hm, Nat.mul_div_cancel_left _ hs]
  have d0 : e / zq X (3 - l) = m := by
    have : e = zq X (3 - l) * m + (zq X (3 - l) - 1) := by
      rw [Nat.mul_add, Nat.mul_one] at hm
      omega
    rw [this, Nat.mul_add_div hs, Nat.div_eq_of_lt (by omega), Nat.add_zero]
  have r1 : RE X o (e + 1) l = (((m + 1) % 10 : Nat) : Int) := by
    unfold RE
    rw [if_pos hL, d1]
  have r0 : RE X o e l = ((m % 10 : Nat) : Int) := by
    unfold RE
    rw [if_pos hL, d0]
  rw [r1, r0]
  refine ⟨fun h => ⟨by omega, fun j hj => ?_⟩, fun h => ⟨by omega, ?_⟩⟩
  · unfold RE
    by_cases q : 0 < LC X j
    · rw [if_pos q, if_pos q]
      have t := zq_dvd X (show 4 - l ≤ 3 - j by omega)
      rw [sdv (zq_r X (3 - j)).1 fun y => ?_]
      obtain ⟨k, hk⟩ := Nat.dvd_trans t y
      rw [hm, e4, Nat.mul_comm 10, Nat.mul_assoc] at hk
      have := Nat.eq_of_mul_eq_mul_left hs hk
      omega
    · rw [if_neg q, if_neg q]
  · rw [e4, hm, Nat.mul_comm 10]
    exact Nat.mul_dvd_mul_left _ ⟨(m + 1) / 10, by omega⟩
theorem RE_pre {X : Nat → Nat → Int} {o : Nat → Int} {e r d j : Nat} (hd : zq X (d + 1) ∣ e) (hr : r < zq X (d + 1)) (hj : j < 3 - d) : RE X o (e + r) j = RE X o e j := by
  unfold RE
  by_cases q : 0 < LC X j
  · rw [if_pos q, if_pos q]
    obtain ⟨t, ht⟩ := zq_dvd X (show d + 1 ≤ 3 - j by omega)
    obtain ⟨k, hk⟩ := hd
    have hz := (zq_r X (d + 1)).1
    rw [ht, ← Nat.div_div_eq_div_mul, ← Nat.div_div_eq_div_mul, hk, Nat.mul_add_div hz, Nat.div_eq_of_lt hr, Nat.mul_div_cancel_left _ hz, Nat.add_zero]
  · rw [if_neg q, if_neg q]
theorem RE_dig {X : Nat → Nat → Int} {o : Nat → Int} {e w d : Nat} (hd : zq X (d + 1) ∣ e) (h3 : d ≤ 3) (hL : 0 < LC X (3 - d)) (hw : w < 10) : RE X o (e + w * zq X d) (3 - d) = (w : Int) := by
  have hz := (zq_r X d).1
  obtain ⟨k, hk⟩ := hd
  have e1 : zq X (d + 1) = 10 * zq X d := by
    show bsz X (3 - d) * _ = _
    unfold bsz
    rw [if_pos hL]
  unfold RE
  have e2 : e + w * zq X d = zq X d * (10 * k + w) := by
    rw [hk, e1, Nat.mul_add, Nat.mul_comm 10 (zq X d), Nat.mul_assoc, Nat.mul_comm w]
  rw [if_pos hL, show 3 - (3 - d) = d by omega, e2, Nat.mul_div_cancel_left _ hz]
  omega
/-- the best of the rows below e -/
def BI (X : Nat → Nat → Int) (c : Nat → Int) (P : Int) (o : Nat → Int) : Nat → Option Nat
  | 0 => none
  | e + 1 => match BI X c P o e with
    | none => if 0 < SA X (RE X o e) then some e else none
    | some i => if 0 < SA X (RE X o e) ∧ MS X c P (RE X o e) * SA X (RE X o i) < MS X c P (RE X o i) * SA X (RE X o e) then some e else some i
section
variable {X : Nat → Nat → Int} {c : Nat → Int} {P : Int} {o : Nat → Int}
theorem BI_n {e : Nat} (h : BI X c P o e = none) : BI X c P o (e + 1) = if 0 < SA X (RE X o e) then some e else none := by
  rw [BI, h]
theorem BI_s {e i : Nat} (h : BI X c P o e = some i) : BI X c P o (e + 1) = if 0 < SA X (RE X o e) ∧ MS X c P (RE X o e) * SA X (RE X o i) < MS X c P (RE X o i) * SA X (RE X o e) then some e else some i := by
  rw [BI, h]
theorem BI_p : ∀ e i : Nat, BI X c P o e = some i → i < e ∧ 0 < SA X (RE X o i) := by
  intro e
  induction e with
  | zero => intro i h; cases h
  | succ e ih =>
    intro i h
    cases q : BI X c P o e with
    | none =>
      rw [BI_n q] at h
      split at h
      · rename_i y
        cases h
        exact ⟨by omega, y⟩
      · cases h
    | some k =>
      obtain ⟨k1, k2⟩ := ih k q
      rw [BI_s q] at h
      split at h
      · rename_i y
        cases h
        exact ⟨by omega, y.1⟩
      · cases h
        exact ⟨by omega, k2⟩
theorem BI_0 {e : Nat} (h : ¬ 0 < SA X (RE X o e)) : BI X c P o (e + 1) = BI X c P o e := by
  cases q : BI X c P o e with
  | none => rw [BI_n q, if_neg h]
  | some i => rw [BI_s q, if_neg fun y => h y.1]
theorem BI_stop (B : XB X c P) (ho : wB9 o) {e i : Nat} (h : BI X c P o e = some i) (h0 : MS X c P (RE X o i) ≤ 0) : ∀ k : Nat, BI X c P o (e + k) = some i := by
  have z : MS X c P (RE X o i) = 0 := by have := (MS_r B (RE_B X ho i)).1; omega
  intro k
  induction k with
  | zero => exact h
  | succ k ih =>
    rw [show e + (k + 1) = (e + k) + 1 from rfl, BI_s ih, if_neg fun y => ?_]
    have y2 := y.2
    rw [z, Int.zero_mul] at y2
    have := (mul_r (MS_r B (RE_B X ho (e + k))) (SA_r B (RE_B X ho i))).1
    omega
theorem BI_up {e : Nat} (h : ¬ BI X c P o e = none) : ∀ k : Nat, ¬ BI X c P o (e + k) = none := by
  intro k
  induction k with
  | zero => exact h
  | succ k ih =>
    cases q : BI X c P o (e + k) with
    | none => exact absurd q ih
    | some i =>
      rw [show e + (k + 1) = (e + k) + 1 from rfl, BI_s q]
      split <;> exact fun y => by cases y
theorem BI_some (B : XB X c P) (ho : wB9 o) {l : Nat} (hl : l < 4) (hL : 0 < LC X l) : ∃ i, BI X c P o (zq X 4) = some i := by
  have hs := (zq_r X (3 - l)).1
  have e4 : zq X (4 - l) = 10 * zq X (3 - l) := by
    rw [show 4 - l = (3 - l) + 1 by omega]
    show bsz X (3 - (3 - l)) * _ = _
    rw [show 3 - (3 - l) = l by omega]
    unfold bsz
    rw [if_pos hL]
  have le := Nat.le_of_dvd (zq_r X 4).1 (zq_dvd X (show 4 - l ≤ 4 by omega))
  have r1 : RE X o (zq X (3 - l)) l = 1 := by
    unfold RE
    rw [if_pos hL, Nat.div_self hs]
    rfl
  have sp : 0 < SA X (RE X o (zq X (3 - l))) := sg_pos (i := l) (fun k hk => (mul_r (RE_B X ho (zq X (3 - l)) k hk) (LC_r B hk)).1) hl (by
    show 0 < RE X o (zq X (3 - l)) l * LC X l
    rw [r1, Int.one_mul]
    exact hL)
  have h1 : ¬ BI X c P o (zq X (3 - l) + 1) = none := by
    cases q : BI X c P o (zq X (3 - l)) with
    | none => rw [BI_n q, if_pos sp]; exact fun y => by cases y
    | some i => rw [BI_s q]; split <;> exact fun y => by cases y
  have h2 := BI_up h1 (zq X 4 - (zq X (3 - l) + 1))
  rw [show zq X (3 - l) + 1 + (zq X 4 - (zq X (3 - l) + 1)) = zq X 4 by omega] at h2
  cases q : BI X c P o (zq X 4) with
  | none => exact absurd q h2
  | some i => exact ⟨i, rfl⟩
end
