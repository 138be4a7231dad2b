/-! QUERIES: exact: the reference's running fraction -/
def vt (A : Nat → Nat → Int) (x : Nat) : Int := sg (fun y => A x y) 9
def Tx (P : Nat → Int) (A : Nat → Nat → Int) (z : Nat) (K : Int) (r : Nat) : Int := if vt A r ≤ 0 then 0 else rsv P A r z * (K / vt A r)
theorem rsv_r {P : Nat → Int} {A : Nat → Nat → Int} (h : PA P A) {x y : Nat} (hx : x < 8) (hy : y < 9) : 0 ≤ rsv P A x y ∧ (0 < vt A x → rsv P A x y < vt A x) := by
  have a := (h.2.1 x y hx hy).1
  have p := (h.1 x hx).1
  unfold rsv vt
  by_cases z : sg (fun y => A x y) 9 ≤ 0
  · rw [if_pos z]
    exact ⟨by omega, fun q => by omega⟩
  · rw [if_neg z]
    exact ⟨Int.emod_nonneg _ (by omega), fun q => Int.emod_lt_of_pos _ q⟩
theorem vt_r {P : Nat → Int} {A : Nat → Nat → Int} (h : PA P A) (h8 : sg (fun x => sg (fun y => A x y) 9) 8 ≤ 864) {x : Nat} (hx : x < 8) : 0 ≤ vt A x ∧ vt A x ≤ 864 := by
  have n : ∀ x, x < 8 → 0 ≤ vt A x := fun x hx => sg_nn fun y hy => (h.2.1 x y hx hy).1
  have := sg_at (f := vt A) (n := 8) n x hx
  have e : sg (vt A) 8 ≤ 864 := h8
  exact ⟨n x hx, by omega⟩
theorem Tx_r {P : Nat → Int} {A : Nat → Nat → Int} (h : PA P A) {z : Nat} {K : Nat} (hz : z < 9) (hK : ∀ x, x < 8 → 0 < vt A x → (vt A x).toNat ∣ K) {x : Nat} (hx : x < 8) : 0 ≤ Tx P A z K x ∧ Tx P A z K x ≤ K := by
  have r := rsv_r h hx hz
  unfold Tx
  by_cases q : vt A x ≤ 0
  · rw [if_pos q]
    omega
  · rw [if_neg q]
    obtain ⟨k, hk⟩ := hK x hx (by omega)
    have e : (K : Int) = vt A x * k := by
      rw [hk, Int.natCast_mul, Int.toNat_of_nonneg (by omega)]
    have d : (K : Int) / vt A x = k := by
      rw [e, Int.mul_ediv_cancel_left _ (by omega)]
    rw [d]
    refine ⟨Int.mul_nonneg r.1 (by omega), ?_⟩
    rw [e]
    exact Int.mul_le_mul_of_nonneg_right (by have := r.2 (by omega); omega) (by omega)
theorem sl_196 {P : Nat → Int} {A : Nat → Nat → Int} {z K : Nat} {w : Int} (h : PA P A) (h8 : sg (fun x => sg (fun y => A x y) 9) 8 ≤ 864) (hz : z < 9) (hK : K = cm (vt A) 8) (hw : 0 ≤ w ∧ w ≤ 2) : ∀ (n j : Nat) (s : gx_S), 8 < n + j → j ≤ 8 → s.1 215 18 = 9 → (∀ x, x < 8 → s.2 221 x = P x ∧ ∀ y, y < 9 → s.1 222 (9 * x + y) = A x y) → s.2 215 30 = (cm (vt A) j : Nat) → s.2 215 29 * (K : Int) = (cm (vt A) j : Nat) * sg (Tx P A z K) j → SC s → ∃ u : gx_S, gm_196_63 n z w (sg (fun x => flv P A x z) j) j s = some (if ¬ w = 0 then (if ¬ w - 1 = 0 then (K : Int) else sg (Tx P A z K) 8 % K) / ((Nat.gcd (sg (Tx P A z K) 8 % K).toNat K : Nat) : Int) else sg (fun x => flv P A x z) 8 + sg (Tx P A z K) 8 / K, u) ∧ KRw s u := by
  have v0 : ∀ k, k < 8 → 0 ≤ vt A k := fun k hk => (vt_r h h8 hk).1
  have cB : ∀ n, n ≤ 8 → cm (vt A) n ≤ 20000000000000000 := fun n hn => cm_B v0 h8 hn
  have K0 : 0 < K := by rw [hK]; exact cm_pos _ 8
  have KB : K ≤ 20000000000000000 := by rw [hK]; exact cB 8 (by omega)
  have dv : ∀ x, x < 8 → 0 < vt A x → (vt A x).toNat ∣ K := fun x hx hp => by rw [hK]; exact cm_dvd hx hp
  have cd : ∀ j, j ≤ 8 → cm (vt A) j ∣ K := fun j hj => by
    rw [hK]
    have : ∀ d, cm (vt A) j ∣ cm (vt A) (j + d) := fun d => by
      induction d with
      | zero => exact Nat.dvd_refl _
      | succ d ih =>
        refine Nat.dvd_trans ih ?_
        show _ ∣ (if vt A (j + d) ≤ 0 then cm (vt A) (j + d) else Nat.lcm (cm (vt A) (j + d)) (vt A (j + d)).toNat)
        split
        · exact Nat.dvd_refl _
        · exact Nat.dvd_lcm_left _ _
    have := this (8 - j)
    rw [show j + (8 - j) = 8 by omega] at this
    exact this
  have TB8 : 0 ≤ sg (Tx P A z K) 8 ∧ sg (Tx P A z K) 8 ≤ 8 * K := by
    refine ⟨sg_nn fun x hx => (Tx_r h hz dv hx).1, ?_⟩
    have := sg_le (f := Tx P A z K) (g := fun _ => (K : Int) * 1) (n := 8) fun x hx => by
      show _ ≤ (K : Int) * 1
      rw [Int.mul_one]
      exact (Tx_r h hz dv hx).2
    rw [sg_mul, sg_one] at this
    omega
  intro n
  induction n with
  | zero => intro j s h; omega
  | succ n ih =>
    intro j s hn hj e18 eA e30 e29 S
    rw [gm_196_63, if_pos (by omega)]
    by_cases q : j = 8
    · have n29 : s.2 215 29 = sg (Tx P A z K) 8 := by
        rw [q, ← hK, Int.mul_comm] at e29
        exact Int.eq_of_mul_eq_mul_left (by omega) e29
      rw [q, ← hK] at e30
      rw [if_pos (by omega), n29, e30, if_pos (by omega), if_pos (by omega), q]
      by_cases t : ¬ w = 0
      · have m0 := Int.emod_nonneg (sg (Tx P A z K) 8) (show (K : Int) ≠ 0 by omega)
        have m1 := Int.emod_lt_of_pos (sg (Tx P A z K) 8) (show (0 : Int) < K by omega)
        obtain ⟨a, ha⟩ : ∃ a : Nat, sg (Tx P A z K) 8 % (K : Int) = a := ⟨_, (Int.toNat_of_nonneg m0).symm⟩
        rw [if_pos t, if_pos t, ha]
        rw [sp_194f s (by omega) KB (show i32 (w - 1) by unfold i32; omega), Option.bind_some]
        exact ⟨s, rfl, KRw_rf s⟩
      · rw [if_neg t, if_neg t]
        exact ⟨s, rfl, KRw_rf s⟩
    · have i5 : ((j : Int)).toNat = j := by omega
      have ce : ((j : Int) + 1) = ((j + 1 : Nat) : Int) := rfl
      have vr := vt_r h h8 (show j < 8 by omega)
      have ej : sg (fun c => s.1 222 (9 * j + c)) 9 = vt A j := sg_eq fun y hy => (eA j (by omega)).2 y hy
      have c61 := sp_161 (s := s) (r := j) (m := 9) (by omega) (by omega) e18
      rw [ej] at c61
      obtain ⟨a, ha⟩ : ∃ a, a = gw1 s 223 j (vt A j) := ⟨_, rfl⟩
      rw [← ha] at c61
      have a1 : ∀ k i, k ≠ 223 → a.1 k i = s.1 k i := fun k i q => by rw [ha, gw1_1, if_neg (by omega)]
      have a2 : a.2 = s.2 := by rw [ha]; rfl
      have aS : SC a := ⟨fun j hj => by rw [a2, a1 232 j (by decide), a1 233 j (by decide), a1 234 j (by decide)]; exact S.1 j hj, fun d hd => by rw [a2, a1 235 d (by decide)]; exact S.2.1 d hd, fun k hk => by rw [a2]; exact S.2.2 k hk⟩
      have aK : KRw s a := ⟨fun k i q => a1 k i (by omega), fun k i _ => by rw [a2], fun _ => aS⟩
      rw [if_neg (by omega), c61, Option.bind_some]
      show ∃ u : gx_S, (if (-2147483648 ≤ vt A j ∧ vt A j ≤ 2147483647) then (if vt A j ≤ 0 then gm_196_125 (gm_196_63 n) z w (sg (fun x => flv P A x z) j) j a else ((gm_162 j a).bind _)) else none) = _ ∧ _
      rw [if_pos (by omega)]
      by_cases zz : vt A j ≤ 0
      · have f0 : flv P A j z = 0 := if_pos zz
        have t0 : Tx P A z K j = 0 := if_pos zz
        have c0 : cm (vt A) (j + 1) = cm (vt A) j := if_pos zz
        have sf : sg (fun x => flv P A x z) (j + 1) = sg (fun x => flv P A x z) j := by
          show sg (fun x => flv P A x z) j + flv P A j z = _
          rw [f0, Int.add_zero]
        have st : sg (Tx P A z K) (j + 1) = sg (Tx P A z K) j := by
          show sg (Tx P A z K) j + Tx P A z K j = _
          rw [t0, Int.add_zero]
        rw [if_pos zz]
        unfold gm_196_125
        rw [ce, ← sf]
        obtain ⟨u, u1, u2⟩ := ih (j + 1) a (by omega) (by omega) (by rw [a1 _ _ (by decide)]; exact e18) (fun x hx => ⟨by rw [a2]; exact (eA x hx).1, fun y hy => by rw [a1 _ _ (by decide)]; exact (eA x hx).2 y hy⟩) (by rw [a2, c0]; exact e30) (by rw [a2, c0, st]; exact e29) aS
        exact ⟨u, u1, KRw_tr aK u2⟩
      · have pr := h.1 j (by omega)
        have aj : a.1 223 j = vt A j := by rw [ha, gw1_1, if_pos ⟨rfl, rfl⟩]
        have a22 : ∀ y, y < 9 → a.1 222 (9 * j + y) = A j y := fun y hy => by rw [a1 _ _ (by decide)]; exact (eA j (by omega)).2 y hy
        have a21 : a.2 221 j = P j := by rw [a2]; exact (eA j (by omega)).1
        have c62 := sp_162 (s := a) (r := j) (m := 9) (by omega) (by omega) (by rw [a1 _ _ (by decide)]; exact e18) (by rw [a21]; omega) (fun y hy => by
          rw [a22 y hy]
          exact h.2.1 j y (by omega) hy) (by rw [aj]; omega)
        have b4 : (ct a j 9).2 224 (9 * j + z) = flv P A j z := by
          rw [ct_4 (by omega), if_pos (by omega)]
          unfold flq flv
          rw [show (9 * j + z) / 9 = j by omega, aj, a21, a22 z hz, if_neg (by omega)]
          exact (if_neg zz).symm
        have b5 : ∀ y, y < 9 → (ct a j 9).2 225 (9 * j + y) = rsv P A j y := fun y hy => by
          rw [ct_5 (by omega), if_pos (by omega)]
          unfold rsq rsv
          rw [show (9 * j + y) / 9 = j by omega, aj, a21, a22 y hy, if_neg (by omega)]
          exact (if_neg zz).symm
        obtain ⟨b, hb⟩ : ∃ b, b = ct a j 9 := ⟨_, rfl⟩
        rw [← hb] at c62 b4 b5
        have b1 : b.1 = a.1 := by rw [hb]; rfl
        have bo : ∀ k i, k ≠ 224 → k ≠ 225 → b.2 k i = s.2 k i := fun k i h1 h2 => by rw [hb, ct_o _ _ _ _ _ h1 h2, a2]
        have bS : SC b := ⟨fun i hi => by
          refine ⟨by rw [b1]; exact (aS.1 i hi).1, by rw [b1]; exact (aS.1 i hi).2.1, by rw [b1]; exact (aS.1 i hi).2.2.1, ?_⟩
          by_cases y : 9 * j ≤ i ∧ i < 9 * j + 9
          · have := b5 (i - 9 * j) (by omega)
            rw [show 9 * j + (i - 9 * j) = i by omega] at this
            have r := rsv_r h (show j < 8 by omega) (show i - 9 * j < 9 by omega)
            have := r.2 (by omega)
            omega
          · rw [hb, ct_5 (by omega), if_neg y]
            exact (aS.1 i hi).2.2.2, fun d hd => by rw [bo _ _ (by decide) (by decide), bo _ _ (by decide) (by decide), bo _ _ (by decide) (by decide), bo _ _ (by decide) (by decide), b1, a1 235 d (by decide)]; exact S.2.1 d hd, fun k hk => by rw [bo _ _ (by decide) (by decide)]; exact S.2.2 k hk⟩
        have bj : b.1 223 j = (((vt A j).toNat : Nat) : Int) := by rw [b1, aj]; omega
        have b30 : b.2 215 30 = (cm (vt A) j : Nat) := by rw [bo _ _ (by decide) (by decide)]; exact e30
        have b29 : b.2 215 29 = s.2 215 29 := bo _ _ (by decide) (by decide)
        have cj := cm_pos (vt A) j
        have c1 : cm (vt A) (j + 1) = Nat.lcm (cm (vt A) j) (vt A j).toNat := if_neg zz
        have c165 := sp_165 (s := b) (x := rsv P A j z) (d := cm (vt A) j) (t := (vt A j).toNat) b30 cj (by omega) (by omega) (by rw [← c1]; exact cB (j + 1) (by omega))
        obtain ⟨f1, f2⟩ := add_fr (x := rsv P A j z) cj (show 0 < (vt A j).toNat by omega) (cd j (by omega)) (dv j (by omega) (by omega)) e29
        rw [← c1] at c165 f2
        rw [if_neg zz, c62, Option.bind_some]
        unfold gm_160
        rw [Option.bind_some]
        show ∃ u : gx_S, (if 0 ≤ (9 * (j : Int)) + (z : Int) ∧ (9 * (j : Int)) + (z : Int) < 72 then (if 0 ≤ (9 * (j : Int)) + (z : Int) ∧ (9 * (j : Int)) + (z : Int) < 72 then (if 0 ≤ (j : Int) ∧ (j : Int) < 8 then (if (-2147483648 ≤ (b.1 223 (j : Int).toNat) ∧ (b.1 223 (j : Int).toNat) ≤ 2147483647) then ((gm_165 (b.2 225 ((9 * (j : Int)) + (z : Int)).toNat) (b.1 223 (j : Int).toNat) b).bind fun q31 => gm_196_125 (gm_196_63 n) z w (sg (fun x => flv P A x z) j + (b.2 224 ((9 * (j : Int)) + (z : Int)).toNat)) j q31) else none) else none) else none) else none) = _ ∧ _
        rw [if_pos (by omega), if_pos (by omega), if_pos (by omega), i5, show ((9 * (j : Int)) + (z : Int)).toNat = 9 * j + z by omega, b4, b5 z hz, bj, if_pos (by omega), c165, Option.bind_some]
        unfold gm_196_125
        obtain ⟨d, hd⟩ : ∃ d, d = gw2 (gw2 b 215 29 (b.2 215 29 * (((cm (vt A) (j + 1) : Nat) : Int) / ((cm (vt A) j : Nat) : Int)) + rsv P A j z * (((cm (vt A) (j + 1) : Nat) : Int) / (((vt A j).toNat : Nat) : Int)))) 215 30 ((cm (vt A) (j + 1) : Nat) : Int) := ⟨_, rfl⟩
        rw [← hd, ce]
        have d1 : ∀ k i, d.1 k i = a.1 k i := fun k i => by rw [hd, gw2_1, gw2_1, b1]
        have d2 : ∀ k i, k ≠ 215 → d.2 k i = b.2 k i := fun k i q => by rw [hd, gw2_2, if_neg (by omega), gw2_2, if_neg (by omega)]
        have dS : SC d := ⟨fun i hi => by rw [d1, d1, d1, d2 _ _ (by decide), ← b1]; exact bS.1 i hi, fun e he => by rw [d1, d2 _ _ (by decide), d2 _ _ (by decide), d2 _ _ (by decide), d2 _ _ (by decide), ← b1]; exact bS.2.1 e he, fun k hk => by rw [d2 _ _ (by decide)]; exact bS.2.2 k hk⟩
        have dK : KRw s d := ⟨fun k i q => by rw [d1, a1 k i (by omega)], fun k i q => by rw [d2 k i (by omega), bo k i (by omega) (by omega)], fun _ => dS⟩
        have sT : Tx P A z K j = rsv P A j z * ((K : Int) / (((vt A j).toNat : Nat) : Int)) := by
          unfold Tx
          rw [if_neg zz, Int.toNat_of_nonneg vr.1]
        obtain ⟨u, u1, u2⟩ := ih (j + 1) d (by omega) (by omega) (by rw [d1, a1 _ _ (by decide)]; exact e18) (fun x hx => ⟨by rw [d2 _ _ (by decide), bo _ _ (by decide) (by decide)]; exact (eA x hx).1, fun y hy => by rw [d1, a1 _ _ (by decide)]; exact (eA x hx).2 y hy⟩) (by rw [hd, gw2_2, if_pos ⟨rfl, rfl⟩]) (by
          have e : d.2 215 29 = s.2 215 29 * (((cm (vt A) (j + 1) : Nat) : Int) / ((cm (vt A) j : Nat) : Int)) + rsv P A j z * (((cm (vt A) (j + 1) : Nat) : Int) / (((vt A j).toNat : Nat) : Int)) := by
            rw [hd, gw2_2, if_neg (by omega), gw2_2, if_pos ⟨rfl, rfl⟩, b29]
          rw [e, f2]
          show _ = ((cm (vt A) (j + 1) : Nat) : Int) * (sg (Tx P A z K) j + Tx P A z K j)
          rw [sT]) dS
        exact ⟨u, u1, KRw_tr dK u2⟩
