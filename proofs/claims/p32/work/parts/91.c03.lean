/-! THE CLASS ALONE: exact, surface, densest, dense, coarse -/
section
variable {s : gx_S} {f : Nat → Int} {R C n L : Nat} {pf : Nat → Nat → Int} {tb : Nat → Int}
/-- rests of a column over the least common multiple of all, whole people -/
def Kmv (f : Nat → Int) (R C g : Nat) : Nat := cm (vt (PMV f R C g)) 8
def Smv (f : Nat → Int) (R C g z : Nat) : Int := sg (Tx (LV f R C g) (PMV f R C g) z (Kmv f R C g : Nat)) 8
def Fmv (f : Nat → Int) (R C g z : Nat) : Int := sg (fun x => flv (LV f R C g) (PMV f R C g) x z) 8
theorem Kmv_r {f : Nat → Int} {R C g : Nat} (M : MP f R C) (h7 : f 2 = 7) (hg : g < 3) : 0 < Kmv f R C g ∧ Kmv f R C g ≤ 20000000000000000 ∧ ∀ x, x < 8 → 0 < vt (PMV f R C g) x → (vt (PMV f R C g) x).toNat ∣ Kmv f R C g := by
  obtain ⟨p1, p2⟩ := PA_mv M h7 hg
  have vr : ∀ x, x < 8 → 0 ≤ vt (PMV f R C g) x ∧ vt (PMV f R C g) x ≤ 864 := fun x hx => vt_r p1 p2 hx
  exact ⟨cm_pos _ 8, cm_B (fun k hk => (vr k hk).1) p2 (by omega), fun x hx hp => cm_dvd hx hp⟩
theorem Smv_r {f : Nat → Int} {R C g z : Nat} (M : MP f R C) (h7 : f 2 = 7) (hg : g < 3) (hz : z < 9) : 0 ≤ Smv f R C g z ∧ Smv f R C g z ≤ 8 * (Kmv f R C g : Nat) := by
  obtain ⟨p1, p2⟩ := PA_mv M h7 hg
  obtain ⟨K0, KB, dv⟩ := Kmv_r M h7 hg
  unfold Smv
  refine ⟨sg_nn fun x hx => (Tx_r p1 hz dv hx).1, ?_⟩
  have := sg_le (f := Tx (LV f R C g) (PMV f R C g) z (Kmv f R C g : Nat)) (g := fun _ => ((Kmv f R C g : Nat) : Int) * 1) (n := 8) fun x hx => by
    show _ ≤ ((Kmv f R C g : Nat) : Int) * 1
    rw [Int.mul_one]
    exact (Tx_r p1 hz dv hx).2
  rw [sg_mul, sg_one] at this
  omega
theorem flv_r {P : Nat → Int} {A : Nat → Nat → Int} (p1 : PA P A) {x z : Nat} (hx : x < 8) (hz : z < 9) : 0 ≤ flv P A x z ∧ flv P A x z ≤ 100000000 := by
  have q1 := p1.1 x hx
  have q2 := p1.2.1 x z hx hz
  unfold flv
  by_cases y : sg (fun y => A x y) 9 ≤ 0
  · rw [if_pos y]
    omega
  · rw [if_neg y]
    have q3 : A x z ≤ sg (fun y => A x y) 9 := sg_at (f := fun y => A x y) (n := 9) (fun y hy => (p1.2.1 x y hx hy).1) z hz
    refine ⟨Int.ediv_nonneg (Int.mul_nonneg q1.1 q2.1) (by omega), ?_⟩
    have m := Int.ediv_le_ediv (show 0 < sg (fun y => A x y) 9 by omega) (Int.mul_le_mul_of_nonneg_left q3 q1.1)
    rw [Int.mul_ediv_cancel _ (by omega)] at m
    omega
theorem qs_exact (h : QS f R C n pf L tb s) (h7 : f 2 = 7) {g z : Nat} {w : Int} (hg : g < 3) (hz : z < 9) (d : 0 ≤ w ∧ w ≤ 2) : ∃ u : gx_S, gm_100 g z w s = some (if ¬ w = 0 then (if ¬ w - 1 = 0 then ((Kmv f R C g : Nat) : Int) else Smv f R C g z % (Kmv f R C g : Nat)) / ((Nat.gcd (Smv f R C g z % (Kmv f R C g : Nat)).toNat (Kmv f R C g) : Nat) : Int) else Fmv f R C g z + Smv f R C g z / (Kmv f R C g : Nat), u) ∧ QS f R C n pf L tb u := by
  obtain ⟨c, v⟩ := id h
  have hx : i32 (g : Int) := by unfold i32; omega
  have hz' : i32 (z : Int) := by unfold i32; omega
  have c118 := sp_118 c.1 v.1 hx hz'
  obtain ⟨D, u, u1, u2, u3, u4, u5, u6⟩ := CV_ready (w := 2) (by omega) v.1 h7 hg c
  have u1 : gm_19 (71 + 48 * g) 2 s = some u := u1
  have tm := (u4.2.2.2.2.1 u5).2.1
  obtain ⟨p1, p2⟩ := PA_mv v.1 h7 hg
  have ht := (ga_of hg).2.2.2.1
  have vr : ∀ x, x < 8 → 0 ≤ vt (PMV f R C g) x ∧ vt (PMV f R C g) x ≤ 864 := fun x hx => vt_r p1 p2 hx
  have e2 : ∀ x, x < 8 → u.1 (71 + 48 * g + 3 + 2) x = vt (PMV f R C g) x := fun x hx => (tm x hx).2.1
  have e7 : ∀ x y, x < 8 → y < 9 → u.1 (71 + 48 * g + 3 + 7) (9 * x + y) = rsv (LV f R C g) (PMV f R C g) x y := fun x y hx hy => ((tm x hx).2.2 y hy).2.2.1
  have e6 : ∀ x y, x < 8 → y < 9 → u.1 (71 + 48 * g + 3 + 6) (9 * x + y) = flv (LV f R C g) (PMV f R C g) x y := fun x y hx hy => ((tm x hx).2.2 y hy).2.1
  have ek : cm (u.1 (71 + 48 * g + 3 + 2)) 8 = Kmv f R C g := cm_c fun k hk => e2 k hk
  obtain ⟨K0, KB, dv⟩ := Kmv_r v.1 h7 hg
  have Sr := Smv_r v.1 h7 hg hz
  have hS : Smv f R C g z = sg (Tx (LV f R C g) (PMV f R C g) z (Kmv f R C g : Nat)) 8 := rfl
  have hF : Fmv f R C g z = sg (fun x => flv (LV f R C g) (PMV f R C g) x z) 8 := rfl
  have Fr : -2147483648 ≤ Fmv f R C g z ∧ Fmv f R C g z ≤ 2147483647 := by
    have l := sg_le (f := fun x => flv (LV f R C g) (PMV f R C g) x z) (g := fun _ => 100000000 * 1) (n := 8) fun x hx => by
      show _ ≤ (100000000 : Int) * 1
      have := (flv_r p1 hx hz).2
      omega
    have l0 := sg_nn (f := fun x => flv (LV f R C g) (PMV f R C g) x z) (n := 8) fun x hx => (flv_r p1 hx hz).1
    rw [sg_mul, sg_one] at l
    omega
  obtain ⟨K, hK⟩ : ∃ K, K = Kmv f R C g := ⟨_, rfl⟩
  rw [← hK] at hS ek K0 KB dv Sr
  rw [← hK]
  have c78 := sp_78 (t := 71 + 48 * g + 3) (s := u) ht (fun k hk => by rw [e2 k hk]; have := vr k hk; omega) (by rw [sg_eq (g := vt (PMV f R C g)) e2]; exact p2)
  rw [ek] at c78
  have c79 := sp_79 (t := 71 + 48 * g + 3) (c := z) (s := u) (K := (K : Int)) ht hz (fun k hk => by rw [e2 k hk]; have := vr k hk; omega) (fun k hk => by
    have := e7 (k / 9) (k % 9) (by omega) (by omega)
    rw [show 9 * (k / 9) + k % 9 = k by omega] at this
    rw [this]
    have q := rsv_r p1 (show k / 9 < 8 by omega) (show k % 9 < 9 by omega)
    have q2 := vr (k / 9) (by omega)
    unfold i32
    by_cases y : 0 < vt (PMV f R C g) (k / 9)
    · have := q.2 y
      omega
    · have : rsv (LV f R C g) (PMV f R C g) (k / 9) (k % 9) = 0 := if_pos (show vt (PMV f R C g) (k / 9) ≤ 0 by omega)
      omega) (by omega)
  have ero : ro u (71 + 48 * g + 3) z K = sg (Tx (LV f R C g) (PMV f R C g) z K) 8 := sg_eq fun k hk => by
    rw [e2 k hk, e7 k z hk hz]
    rfl
  rw [ero, ← hS] at c79
  have c77 := sp_77 (t := 71 + 48 * g + 3) (c := z) (s := u) ht hz
  rw [sg_eq (g := fun x => flv (LV f R C g) (PMV f R C g) x z) fun k hk => e6 k z hk hz, ← hF] at c77
  generalize Smv f R C g z = S at Sr c79 ⊢
  generalize Fmv f R C g z = F at Fr c77 ⊢
  have m0 := Int.emod_nonneg S (show (K : Int) ≠ 0 by omega)
  have m1 := Int.emod_lt_of_pos S (show (0 : Int) < K by omega)
  obtain ⟨A, hA⟩ : ∃ A : Nat, S % (K : Int) = A := ⟨_, (Int.toNat_of_nonneg m0).symm⟩
  refine ⟨u, ?_, u2, v⟩
  unfold gm_100
  rw [c118, Option.bind_some, if_neg (fun q => (gbD s).mp q (by omega)), if_pos (by omega), if_neg (by omega), if_pos d.2, if_pos (by omega), Option.bind_some, vg_ g hg]
  show ((gm_19 (71 + 48 * g) 2 s).bind _) = _
  rw [u1, Option.bind_some, c78, Option.bind_some]
  show (if (-9223372036854775808 ≤ (K : Int) ∧ (K : Int) ≤ 9223372036854775807) then (if 0 < (K : Int) then ((gm_79 (71 + 48 * g + 3) z K u).bind fun q46 => if ¬ w = 0 then (if 0 ≤ q46.1 ∧ q46.1 ≤ 9223372036854775807 ∧ 0 < (K : Int) ∧ (K : Int) ≤ 9223372036854775807 then ((gm_127 (q46.1 % K) K (w - 1) q46.2).bind fun q51 => some (q51.1, q51.2)) else none) else ((gm_77 (71 + 48 * g + 3) z q46.2).bind fun q53 => if (-2147483648 ≤ q53.1 ∧ q53.1 ≤ 2147483647) then (if 0 ≤ q46.1 ∧ q46.1 ≤ 9223372036854775807 ∧ 0 < (K : Int) ∧ (K : Int) ≤ 9223372036854775807 then some ((q53.1 + (q46.1 / K)), q53.2) else none) else none)) else some ((-1), u)) else none) = _
  rw [if_pos (by omega), if_pos (by omega), c79, Option.bind_some]
  by_cases t : ¬ w = 0
  · rw [if_pos t, if_pos t, if_pos (show 0 ≤ S ∧ S ≤ 9223372036854775807 ∧ 0 < (K : Int) ∧ (K : Int) ≤ 9223372036854775807 by omega)]
    show ((gm_127 (S % K) K (w - 1) u).bind fun q51 => some (q51.1, q51.2)) = _
    rw [hA, sp_127f u (by omega) KB (show i32 (w - 1) by unfold i32; omega), Option.bind_some]
    rfl
  · rw [if_neg t, if_neg t]
    show ((gm_77 (71 + 48 * g + 3) z u).bind fun q53 => if (-2147483648 ≤ q53.1 ∧ q53.1 ≤ 2147483647) then (if 0 ≤ S ∧ S ≤ 9223372036854775807 ∧ 0 < (K : Int) ∧ (K : Int) ≤ 9223372036854775807 then some ((q53.1 + (S / K)), q53.2) else none) else none) = _
    rw [c77, Option.bind_some]
    show (if (-2147483648 ≤ F ∧ F ≤ 2147483647) then (if 0 ≤ S ∧ S ≤ 9223372036854775807 ∧ 0 < (K : Int) ∧ (K : Int) ≤ 9223372036854775807 then some ((F + (S / K)), u) else none) else none) = _
    rw [if_pos Fr, if_pos (by omega)]
theorem qs_surface (h : QS f R C n pf L tb s) (h7 : f 2 = 7) {g y z : Nat} {w : Int} (hg : g < 3) (hy : y < R) (hz : z < C) (e : w = 0 ∨ w = 1) : ∃ u : gx_S, gm_106 g y z w s = some ((if ¬ w = 0 then unv f R C g (y * C + z) else tpv f R C g (y * C + z)) / ((Nat.gcd (tpv f R C g (y * C + z)).toNat (unv f R C g (y * C + z)).toNat : Nat) : Int), u) ∧ QS f R C n pf L tb u := by
  obtain ⟨c, v⟩ := id h
  have m1 := v.1.1
  have hx : i32 (g : Int) := by unfold i32; omega
  have hy' : i32 (y : Int) := by unfold i32; omega
  have hz' : i32 (z : Int) := by unfold i32; omega
  have hw : i32 w := by unfold i32; omega
  have e6 : s.1 1 6 = f 2 := c.1.2.2.1
  have c57 := sp_57 (s := s) (a := 1) (by decide +kernel) (by rw [e6]; exact v.1.2.1)
  rw [e6] at c57
  have c59 := sp_59 c.1 v.1 hy' hz'
  have hk : y * C + z < R * C := by
    have := Nat.mul_le_mul_right C (show y + 1 ≤ R by omega)
    rw [Nat.add_mul] at this
    omega
  obtain ⟨D, u, u1, u2, u3, u4, u5, u6⟩ := CV_ready (w := 2) (by omega) v.1 h7 hg c
  have u1 : gm_19 (71 + 48 * g) 2 s = some u := u1
  have tm := u4.2.2.2.2.1 u5
  have e5 : u.1 1 5 = C := u2.1.2.1.trans v.1.1.2.1
  obtain ⟨t27, t28⟩ := sp_27 (k := y * C + z) u2.1 v.1 h7 hg (ga_of hg).2.2.1 u4.2.2.1 (u4.2.2.2.1 tm.1).1 tm.2 hk
  have ei : (y : Int) * (C : Int) + (z : Int) = ((y * C + z : Nat) : Int) := by rw [Int.natCast_add, Int.natCast_mul]
  obtain ⟨⟨p0, p1⟩, q0, q1⟩ := tpv_r v.1 h7 hg hk
  have up := unv_p v.1 h7 hg hk
  have s1 : gm_106 g y z w s = ((gm_27 (71 + 48 * g) ((y * (u.1 1 5)) + z) u).bind fun q46 => if (-2147483648 ≤ q46.1 ∧ q46.1 ≤ 2147483647) then ((gm_28 (71 + 48 * g) ((y * (u.1 1 5)) + z) q46.2).bind fun q49 => if (-2147483648 ≤ q49.1 ∧ q49.1 ≤ 2147483647) then ((gm_127 q46.1 q49.1 w q49.2).bind fun q52 => some (q52.1, q52.2)) else none) else none) := by
    unfold gm_106
    rw [sp_114 s hx, Option.bind_some, if_neg (fun q => (gbD s).mp q (by omega))]
    show ((gm_57 1 s).bind _) = _
    rw [c57, Option.bind_some, if_neg (fun q => (gbD s).mp q h7)]
    show ((gm_59 1 y z s).bind _) = _
    rw [c59, Option.bind_some, if_neg (fun q => (gbD s).mp q (by omega)), if_pos (by omega), if_neg (by omega), if_pos (by omega), if_pos (by omega), Option.bind_some, vg_ g hg]
    show ((gm_19 (71 + 48 * g) 2 s).bind _) = _
    rw [u1, Option.bind_some]
  refine ⟨u, ?_, u2, v⟩
  rw [e5, ei, t27, Option.bind_some] at s1
  dsimp only at s1
  generalize y * C + z = k at s1 t28 p0 p1 q0 q1 up hk ⊢
  obtain ⟨p, hp⟩ : ∃ p : Nat, tpv f R C g k = p := ⟨_, (Int.toNat_of_nonneg p0).symm⟩
  obtain ⟨b, hb⟩ : ∃ b : Nat, unv f R C g k = b := ⟨_, (Int.toNat_of_nonneg q0).symm⟩
  rw [hp] at s1 p0 p1 ⊢
  rw [hb] at t28 q0 q1 up ⊢
  rw [if_pos (by omega), t28, Option.bind_some] at s1
  dsimp only at s1
  rw [if_pos (by omega), sp_127 u (by omega) (by omega) (by omega) hw, Option.bind_some] at s1
  rw [s1, show ((p : Int)).toNat = p by omega, show ((b : Int)).toNat = b by omega]
/-- refused: a row, a column too many -/
theorem qs_surface0 (h : QS f R C n pf L tb s) {g : Nat} {y z w : Int} (hg : g < 3) (hy : i32 y) (hz : i32 z) (d : ¬ (0 ≤ y ∧ y < R ∧ 0 ≤ z ∧ z < C)) : gm_106 g y z w s = some (-1, s) := by
  obtain ⟨c, v⟩ := id h
  have hx : i32 (g : Int) := by unfold i32; omega
  have e6 : s.1 1 6 = f 2 := c.1.2.2.1
  have c57 := sp_57 (s := s) (a := 1) (by decide +kernel) (by rw [e6]; exact v.1.2.1)
  rw [e6] at c57
  have c59 := sp_59 c.1 v.1 hy hz
  unfold gm_106
  rw [sp_114 s hx, Option.bind_some, if_neg (fun q => (gbD s).mp q (by omega))]
  show ((gm_57 1 s).bind _) = _
  rw [c57, Option.bind_some]
  by_cases b : f 2 = 7
  · rw [if_neg (fun q => (gbD s).mp q b)]
    show ((gm_59 1 y z s).bind _) = _
    rw [c59, Option.bind_some, if_pos ((gbD s).mpr d)]
    rfl
  · rw [if_pos ((gbD s).mpr b)]
    rfl
theorem qs_densest (h : QS f R C n pf L tb s) (h7 : f 2 = 7) {g y : Nat} (hg : g < 3) (hy : y < R * C) : ∃ (u : gx_S) (o : Nat), gm_107 g y s = some (((12 * (o / C) + o % C : Nat) : Int), u) ∧ QS f R C n pf L tb u ∧ o < R * C ∧ AHn f R C g o (R * C) = y := by
  obtain ⟨c, v⟩ := id h
  have hx : i32 (g : Int) := by unfold i32; omega
  have hRC := RC_96 v.1.1.2.2.1 v.1.1.2.2.2
  have e6 : s.1 1 6 = f 2 := c.1.2.2.1
  have c57 := sp_57 (s := s) (a := 1) (by decide +kernel) (by rw [e6]; exact v.1.2.1)
  rw [e6] at c57
  have c58 := sp_58 (MR_cz c.1 v.1)
  have hm : ((R * C : Nat) : Int) = R * C := Int.natCast_mul R C
  obtain ⟨D, u, u1, u2, u3, u4, u5, u6⟩ := CV_ready (w := 32) (by omega) v.1 h7 hg c
  have u1 : gm_19 (71 + 48 * g) 32 s = some u := u1
  obtain ⟨tm1, tm2, tm3⟩ := (u4.2.2.2.2.2.2.2.2 u5).2 y (by omega)
  have e5 : u.1 1 5 = C := u2.1.2.1.trans v.1.1.2.1
  have mC := v.1.2.2.2.2.2.2.2.2 (by omega)
  have c12 := v.1.1.2.2.2
  have eC : (if (1 : Int) < (C : Int) then (C : Int) else 1) = C := by split <;> omega
  obtain ⟨o, eo⟩ : ∃ o : Nat, u.1 (71 + 48 * g + 2) y = o := ⟨_, (Int.toNat_of_nonneg tm1).symm⟩
  have ol : o < R * C := by
    rw [eo, ← hm] at tm2
    omega
  have et : (u.1 (71 + 48 * g + 2) y).toNat = o := by rw [eo]; omega
  rw [et] at tm3
  refine ⟨u, o, ?_, ⟨u2, v⟩, ol, tm3⟩
  unfold gm_107
  rw [sp_114 s hx, Option.bind_some, if_neg (fun q => (gbD s).mp q (by omega))]
  show ((gm_57 1 s).bind _) = _
  rw [c57, Option.bind_some, if_neg (fun q => (gbD s).mp q h7), if_pos (by omega), if_neg (by omega)]
  show ((gm_58 1 s).bind _) = _
  rw [c58, Option.bind_some]
  dsimp only
  rw [if_pos (by omega), if_pos (by omega), if_pos (by omega), Option.bind_some, vg_ g hg, u1, Option.bind_some, e5, eC, show ((y : Int)).toNat = y by omega, eo, if_pos (by omega), if_pos (by omega), if_pos (by omega)]
  have d1 : (o : Int) / (C : Int) = ((o / C : Nat) : Int) := (Int.natCast_ediv o C).symm
  have d2 : (o : Int) % (C : Int) = ((o % C : Nat) : Int) := (Int.natCast_emod o C).symm
  rw [d1, d2]
  congr 2
theorem qs_densest0 (h : QS f R C n pf L tb s) {g : Nat} {y : Int} (hg : g < 3) (hy : i32 y) (d : ¬ (0 ≤ y ∧ y < ((R * C : Nat) : Int))) : gm_107 g y s = some (-1, s) := by
  obtain ⟨c, v⟩ := id h
  have hx : i32 (g : Int) := by unfold i32; omega
  have hRC := RC_96 v.1.1.2.2.1 v.1.1.2.2.2
  have e6 : s.1 1 6 = f 2 := c.1.2.2.1
  have c57 := sp_57 (s := s) (a := 1) (by decide +kernel) (by rw [e6]; exact v.1.2.1)
  rw [e6] at c57
  have c58 := sp_58 (MR_cz c.1 v.1)
  unfold i32 at hy
  unfold gm_107
  rw [sp_114 s hx, Option.bind_some, if_neg (fun q => (gbD s).mp q (by omega))]
  show ((gm_57 1 s).bind _) = _
  rw [c57, Option.bind_some]
  by_cases b : f 2 = 7
  · rw [if_neg (fun q => (gbD s).mp q b), if_pos hy]
    by_cases e : y < 0
    · rw [if_pos e]
    · rw [if_neg e]
      show ((gm_58 1 s).bind _) = _
      rw [c58, Option.bind_some]
      dsimp only
      rw [if_pos (by omega), if_neg (by omega)]
  · rw [if_pos ((gbD s).mpr b)]
theorem qs_dense (h : QS f R C n pf L tb s) (h7 : f 2 = 7) {g y : Nat} {z : Int} (hg : g < 3) (hy : y < 8) (hz : i32 z) : ∃ u : gx_S, gm_108 g y z s = some ((if ((0 ≤ z ∧ z ≤ 3) ∧ 0 < NC f R C 1 y) then DA (FP.ddiv (FP.i2d (Int32.ofInt (sg (fun k => GV f R C g k y) 8))) (FP.i2d (Int32.ofInt (NC f R C 1 y)))) z else -9223372036854775808), u) ∧ QS f R C n pf L tb u := by
  obtain ⟨c, v⟩ := id h
  obtain ⟨u, u1, u2, u3⟩ := cls_dense2 (x := (g : Int)) (y := (y : Int)) (z := z) c v.1 (by unfold i32; omega) (by unfold i32; omega) hz
  refine ⟨u, ?_, u3, v⟩
  rw [u1]
  by_cases d : (0 ≤ z ∧ z ≤ 3) ∧ 0 < NC f R C 1 y
  · rw [if_pos d, if_pos ⟨by omega, by omega, h7, d⟩]
    rfl
  · rw [if_neg d, if_neg (fun q => d q.2.2.2)]
/-- those of a district's zones -/
theorem qs_coarse (h : QS f R C n pf L tb s) (h7 : f 2 = 7) {g d : Nat} (hg : g < 3) (hd : d < 4) : ∃ u : gx_S, gm_101 g d 0 s = some (cos_ f R C g d 8, u) ∧ QS f R C n pf L tb u := by
  obtain ⟨c, v⟩ := id h
  have hx : i32 (g : Int) := by unfold i32; omega
  have hd' : i32 (d : Int) := by unfold i32; omega
  have e6 : s.1 1 6 = f 2 := c.1.2.2.1
  have c57 := sp_57 (s := s) (a := 1) (by decide +kernel) (by rw [e6]; exact v.1.2.1)
  rw [e6] at c57
  obtain ⟨D, u, u1, u2, u3, u4, u5, u6⟩ := CV_ready (w := 2) (by omega) v.1 h7 hg c
  have u1 : gm_19 (71 + 48 * g) 2 s = some u := u1
  have tm := (u4.2.2.2.2.1 u5).2.1
  have t1' := sl_101 (d := (d : Int)) (a := 71 + 48 * g) v.1 u2.1 (ga_of hg).2.2.2.1 hd' (fun x y hx hy => ((tm x hx).2.2 y hy).2.2.2) 100000 0 (by omega) (by omega)
  have t1' : gm_101_79 100000 d (71 + 48 * g) 0 0 u = _ := t1'
  refine ⟨u, ?_, u2, v⟩
  unfold gm_101
  rw [sp_114 s hx, Option.bind_some, if_neg (fun q => (gbD s).mp q (by omega))]
  show ((gm_57 1 s).bind _) = _
  rw [c57, Option.bind_some, if_neg (fun q => (gbD s).mp q h7)]
  show ((gm_117 d s).bind _) = _
  rw [sp_117 s hd', Option.bind_some, if_neg (fun q => (gbD s).mp q (by omega)), if_pos (by omega), if_neg (by omega), if_pos (by omega), if_pos (by omega), Option.bind_some, vg_ g hg, if_pos (by omega)]
  show ((gm_19 (71 + 48 * g) 2 s).bind _) = _
  rw [u1, Option.bind_some, t1']
theorem qs_coarse0 (h : QS f R C n pf L tb s) {g : Nat} {d t : Int} (hg : g < 3) (hd : i32 d) (ht : i32 t) (q : ¬ ((0 ≤ d ∧ d < 4) ∧ 0 ≤ t ∧ t ≤ 1)) : gm_101 g d t s = some (-1, s) := by
  obtain ⟨c, v⟩ := id h
  have hx : i32 (g : Int) := by unfold i32; omega
  have e6 : s.1 1 6 = f 2 := c.1.2.2.1
  have c57 := sp_57 (s := s) (a := 1) (by decide +kernel) (by rw [e6]; exact v.1.2.1)
  rw [e6] at c57
  have ht' := ht
  unfold i32 at ht'
  unfold gm_101
  rw [sp_114 s hx, Option.bind_some, if_neg (fun q => (gbD s).mp q (by omega))]
  show ((gm_57 1 s).bind _) = _
  rw [c57, Option.bind_some]
  by_cases h7 : f 2 = 7
  · rw [if_neg (fun q => (gbD s).mp q h7)]
    show ((gm_117 d s).bind _) = _
    rw [sp_117 s hd, Option.bind_some]
    by_cases b : 0 ≤ d ∧ d < 4
    · rw [if_neg (fun q => (gbD s).mp q b), if_pos ht']
      by_cases e : t < 0
      · rw [if_pos e]
      · rw [if_neg e, if_neg (by omega)]
    · rw [if_pos ((gbD s).mpr b)]
  · rw [if_pos ((gbD s).mpr h7)]
end
