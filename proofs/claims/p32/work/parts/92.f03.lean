/-! WHAT IS MOVED, as the law checks it: numbers -/
theorem MVs_zc (G : Nat → Nat → Int) (z c : Nat) : MVs G z c = G z c := by
  unfold MVs
  rw [if_neg (by omega), if_neg (by omega), Int.toNat_natCast, Int.toNat_natCast]
theorem MVs_z (G : Nat → Nat → Int) (z : Nat) : MVs G z (-1) = sg (G z) 9 := by
  unfold MVs
  rw [if_neg (by omega), if_pos rfl, Int.toNat_natCast]
theorem MVs_c (G : Nat → Nat → Int) (c : Nat) : MVs G (-1) c = sg (fun x => G x c) 8 := by
  unfold MVs
  rw [if_pos rfl, if_neg (by omega), Int.toNat_natCast]
theorem MVs_a (G : Nat → Nat → Int) : MVs G (-1) (-1) = sg (fun x => sg (fun y => G x y) 9) 8 := by
  unfold MVs
  rw [if_pos rfl, if_pos rfl]
section
variable {f : Nat → Int} {R C g : Nat}
theorem GV_row (M : MP f R C) (h7 : f 2 = 7) (hg : g < 3) {z : Nat} (hz : z < 8) : sg (GV f R C g z) 9 = LV f R C g z := by
  obtain ⟨p1, p2⟩ := PA_mv M h7 hg
  have t := (TB_0 M.2.2.1 p1 (fun _ => p2)).2
  have a := LV_all M hg
  have b := GV_all M h7 hg
  have l := (LV_r M hg).1
  have e : sg (fun x => LV f R C g x - sg (fun y => GV f R C g x y) 9) 8 = 0 := by
    rw [sg_sub, b]
    have : sg (fun c => LV f R C g c) 8 = sg (LV f R C g) 8 := rfl
    omega
  have nn_ : ∀ k, k < 8 → 0 ≤ LV f R C g k - sg (fun y => GV f R C g k y) 9 := fun k hk => by
    have := t k hk
    have := l k hk
    unfold GV
    split at * <;> omega
  have s := sg_at (f := fun x => LV f R C g x - sg (fun y => GV f R C g x y) 9) nn_ z hz
  have n := nn_ z hz
  rw [e] at s
  show sg (fun y => GV f R C g z y) 9 = _
  have s' : LV f R C g z - sg (fun y => GV f R C g z y) 9 ≤ 0 := s
  omega
theorem vtb_ (M : MP f R C) (h7 : f 2 = 7) (hg : g < 3) {z : Nat} (hz : z < 8) : 0 ≤ vt (PMV f R C g) z ∧ vt (PMV f R C g) z ≤ 864 := by
  obtain ⟨p1, p2⟩ := PA_mv M h7 hg
  have nn_ : ∀ k, k < 8 → 0 ≤ sg (fun y => PMV f R C g k y) 9 := fun k hk => sg_nn fun y hy => (p1.2.1 k y hk hy).1
  have s := sg_at (f := fun x => sg (fun y => PMV f R C g x y) 9) nn_ z hz
  exact ⟨nn_ z hz, by show sg (fun y => PMV f R C g z y) 9 ≤ 864; have s' : sg (fun y => PMV f R C g z y) 9 ≤ _ := s; omega⟩
end
theorem fl_W {P : Nat → Int} {A : Nat → Nat → Int} {x : Nat} (h : 0 < vt A x) (y : Nat) : P x * A x y / vt A x = flv P A x y ∧ P x * A x y % vt A x = rsv P A x y := by
  have h' : ¬ sg (fun y => A x y) 9 ≤ 0 := by
    have : 0 < sg (fun y => A x y) 9 := h
    omega
  exact ⟨(if_neg h').symm, (if_neg h').symm⟩
/-- the least common multiple, a row further -/
theorem cm_st {v : Nat → Int} {z : Nat} (h : 0 < v z) : cm v (z + 1) = cm v z / Nat.gcd (cm v z) (v z).toNat * (v z).toNat := by
  rw [cm, if_neg (by omega), lcm_div _ _ (cm_pos v z)]
theorem Tx_st {P : Nat → Int} {A : Nat → Nat → Int} {c z : Nat} (h : 0 < vt A z) : sg (Tx P A c (cm (vt A) (z + 1) : Nat)) (z + 1) = sg (Tx P A c (cm (vt A) z : Nat)) z * (vt A z / ((Nat.gcd (cm (vt A) z) (vt A z).toNat : Nat) : Int)) + rsv P A z c * ((cm (vt A) z : Nat) / ((Nat.gcd (cm (vt A) z) (vt A z).toNat : Nat) : Int)) := by
  obtain ⟨w, hw⟩ : ∃ w : Nat, vt A z = w := ⟨(vt A z).toNat, by omega⟩
  obtain ⟨K, hK⟩ : ∃ K, K = cm (vt A) z := ⟨_, rfl⟩
  have K0 : 0 < K := by rw [hK]; exact cm_pos _ z
  have e := cm_st (v := vt A) h
  have dv : ∀ x, x < z → 0 < vt A x → (vt A x).toNat ∣ K := fun x hx hp => by rw [hK]; exact cm_dvd hx hp
  rw [← hK, hw, Int.toNat_natCast] at e
  rw [hw] at h
  have w0 : 0 < w := by omega
  rw [sg, hw, ← hK, Int.toNat_natCast, e]
  obtain ⟨d, hd⟩ : ∃ d, d = Nat.gcd K w := ⟨_, rfl⟩
  have d0 : 0 < d := by rw [hd]; exact Nat.gcd_pos_of_pos_right K w0
  obtain ⟨k1, hk1⟩ : d ∣ K := by rw [hd]; exact Nat.gcd_dvd_left K w
  obtain ⟨w1, hw1⟩ : d ∣ w := by rw [hd]; exact Nat.gcd_dvd_right K w
  rw [← hd]
  have q1 : K / d = k1 := by rw [hk1]; exact Nat.mul_div_cancel_left k1 d0
  have q2 : w / d = w1 := by rw [hw1]; exact Nat.mul_div_cancel_left w1 d0
  have q3 : (K : Int) / (d : Int) = ((k1 : Nat) : Int) := by rw [← Int.natCast_ediv, q1]
  have q4 : (w : Int) / (d : Int) = ((w1 : Nat) : Int) := by rw [← Int.natCast_ediv, q2]
  have q5 : K / d * w = K * w1 := by rw [q1, hk1, hw1, Nat.mul_comm d k1, Nat.mul_assoc]
  have last : Tx P A c ((K / d * w : Nat) : Int) z = rsv P A z c * (k1 : Nat) := by
    unfold Tx
    rw [hw, if_neg (by omega), q1, ← Int.natCast_ediv, Nat.mul_div_cancel k1 w0]
  have ea : ∀ x, x < z → Tx P A c ((K / d * w : Nat) : Int) x = (w1 : Nat) * Tx P A c (K : Int) x := fun x hx => by
    unfold Tx
    by_cases q : vt A x ≤ 0
    · rw [if_pos q, if_pos q, Int.mul_zero]
    · obtain ⟨y, hy⟩ : ∃ y : Nat, vt A x = y := ⟨(vt A x).toNat, by omega⟩
      obtain ⟨j, hj⟩ := dv x hx (by omega)
      rw [hy, Int.toNat_natCast] at hj
      rw [hy] at q
      have y0 : 0 < y := by omega
      have r1 : K / d * w / y = j * w1 := by rw [q5, hj, Nat.mul_assoc, Nat.mul_div_cancel_left _ y0]
      have r2 : K / y = j := by rw [hj, Nat.mul_div_cancel_left _ y0]
      rw [hy, if_neg q, if_neg q, ← Int.natCast_ediv, ← Int.natCast_ediv, r1, r2, Int.natCast_mul, ← Int.mul_assoc, Int.mul_comm]
  rw [sg_eq ea, sg_mul, last, q3, q4, Int.mul_comm]
theorem Tx_0 {P : Nat → Int} {A : Nat → Nat → Int} {c z : Nat} (h : vt A z ≤ 0) : cm (vt A) (z + 1) = cm (vt A) z ∧ sg (Tx P A c (cm (vt A) (z + 1) : Nat)) (z + 1) = sg (Tx P A c (cm (vt A) z : Nat)) z := by
  have e : cm (vt A) (z + 1) = cm (vt A) z := by rw [cm, if_pos h]
  have t : Tx P A c ((cm (vt A) z : Nat) : Int) z = 0 := if_pos h
  exact ⟨e, by rw [e, sg, t, Int.add_zero]⟩
