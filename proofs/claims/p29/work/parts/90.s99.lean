/-! QUERIES: exact, whole -/
theorem inv_exact {s : gx_S} (h : INV s) {x z w : Int} (hx : i32 x) (hz : i32 z) (hw : i32 w) : two s (gm_100 x z w) (gm_196 x z w) := by
  obtain ⟨f, R, C, n, pf, L, tb, c, r, v⟩ := id h
  have hx' := hx
  have hz' := hz
  have hw' := hw
  unfold i32 at hx' hz' hw'
  have c118 := sp_118 c.1 v.1 hx hz
  have c150 : ∀ t : gx_S, t.1 216 = f → gm_150 t = some (decide (f 2 = 7), t) := fun t et => by
    have := sp_150 (s := t) (by rw [et]; exact v.1.2.1)
    rw [et] at this
    exact this
  have s2 : ∀ y : gx_S, y.1 216 = f → gm_196 x z w y = if ((0 ≤ x ∧ x < 3) ∧ (0 ≤ z ∧ z ≤ 8) ∧ f 2 = 7) ∧ (0 ≤ w ∧ w ≤ 2) then ((gm_181 x y).bind fun q63 => gm_196_63 100000 z w 0 0 (gw2 (gw2 q63 215 29 0) 215 30 1)) else some (-1, y) := fun y ey => by
    unfold gm_196
    rw [c150 y ey, Option.bind_some]
    by_cases h7 : f 2 = 7
    · rw [if_neg (fun q => (gbD s).mp q h7)]
      show ((gm_148 x y).bind _) = _
      rw [sp_148 y hx, Option.bind_some]
      by_cases a : 0 ≤ x ∧ x ≤ 2
      · rw [if_neg (fun q => (gbD s).mp q a), if_pos hz', in_ y hz (by omega) (by omega), Option.bind_some]
        by_cases b : 0 ≤ z ∧ z ≤ 8
        · rw [if_neg (fun q => (gbD s).mp q b), if_pos hw', in_ y hw (by omega) (by omega), Option.bind_some]
          by_cases d : 0 ≤ w ∧ w ≤ 2
          · rw [if_pos (fun q => (gbD s).mp q d), if_pos (show ((0 ≤ x ∧ x < 3) ∧ (0 ≤ z ∧ z ≤ 8) ∧ f 2 = 7) ∧ (0 ≤ w ∧ w ≤ 2) by omega)]
          · rw [if_neg (fun q => q ((gbD s).mpr d)), if_neg (show ¬ (((0 ≤ x ∧ x < 3) ∧ (0 ≤ z ∧ z ≤ 8) ∧ f 2 = 7) ∧ (0 ≤ w ∧ w ≤ 2)) from fun q => d q.2)]
            rfl
        · rw [if_pos ((gbD s).mpr b), if_neg (show ¬ (((0 ≤ x ∧ x < 3) ∧ (0 ≤ z ∧ z ≤ 8) ∧ f 2 = 7) ∧ (0 ≤ w ∧ w ≤ 2)) from fun q => b q.1.2.1)]
          rfl
      · rw [if_pos ((gbD s).mpr a), if_neg (show ¬ (((0 ≤ x ∧ x < 3) ∧ (0 ≤ z ∧ z ≤ 8) ∧ f 2 = 7) ∧ (0 ≤ w ∧ w ≤ 2)) from fun q => a (by have := q.1.1; omega))]
        rfl
    · rw [if_pos ((gbD s).mpr h7), if_neg (show ¬ (((0 ≤ x ∧ x < 3) ∧ (0 ≤ z ∧ z ≤ 8) ∧ f 2 = 7) ∧ (0 ≤ w ∧ w ≤ 2)) from fun q => h7 q.1.2.2)]
      rfl
  by_cases ok : ((0 ≤ x ∧ x < 3) ∧ (0 ≤ z ∧ z ≤ 8) ∧ f 2 = 7) ∧ (0 ≤ w ∧ w ≤ 2)
  · obtain ⟨⟨a, b, h7⟩, d⟩ := id ok
    obtain ⟨g, rfl⟩ : ∃ g : Nat, x = g := ⟨x.toNat, by omega⟩
    obtain ⟨z, rfl⟩ : ∃ z' : Nat, z = z' := ⟨z.toNat, by omega⟩
    have hg : g < 3 := by omega
    obtain ⟨D, u, u1, u2, u3, u4, u5, u6⟩ := CV_ready (w := 2) (by omega) v.1 h7 hg c
    have u1 : gm_19 (71 + 48 * g) 2 s = some u := u1
    have tm := (u4.2.2.2.2.1 u5).2.1
    have kc : KC s u := KG_KC (ga_of hg) u3
    have ru := RV_KC kc r
    have eu : u.1 216 = f := ru.1
    obtain ⟨p1, p2⟩ := PA_mv v.1 h7 hg
    have ht := (ga_of hg).2.2.2.1
    have vr : ∀ x, x < 8 → 0 ≤ vt (PMV f R C g) x ∧ vt (PMV f R C g) x ≤ 864 := fun x hx => vt_r p1 p2 hx
    have e2 : ∀ x, x < 8 → u.1 (71 + 48 * g + 3 + 2) x = vt (PMV f R C g) x := fun x hx => (tm x hx).2.1
    have e7 : ∀ x y, x < 8 → y < 9 → u.1 (71 + 48 * g + 3 + 7) (9 * x + y) = rsv (LV f R C g) (PMV f R C g) x y := fun x y hx hy => ((tm x hx).2.2 y hy).2.2.1
    have e6 : ∀ x y, x < 8 → y < 9 → u.1 (71 + 48 * g + 3 + 6) (9 * x + y) = flv (LV f R C g) (PMV f R C g) x y := fun x y hx hy => ((tm x hx).2.2 y hy).2.1
    have ek : cm (u.1 (71 + 48 * g + 3 + 2)) 8 = cm (vt (PMV f R C g)) 8 := cm_c fun k hk => e2 k hk
    obtain ⟨K, hK⟩ : ∃ K, K = cm (vt (PMV f R C g)) 8 := ⟨_, rfl⟩
    have K0 : 0 < K := by rw [hK]; exact cm_pos _ 8
    have KB : K ≤ 20000000000000000 := by rw [hK]; exact cm_B (fun k hk => (vr k hk).1) p2 (by omega)
    have dv : ∀ x, x < 8 → 0 < vt (PMV f R C g) x → (vt (PMV f R C g) x).toNat ∣ K := fun x hx hp => by rw [hK]; exact cm_dvd hx hp
    have c78 := sp_78 (t := 71 + 48 * g + 3) (s := u) ht (fun k hk => by rw [e2 k hk]; have := vr k hk; omega) (by rw [sg_eq (g := vt (PMV f R C g)) e2]; exact p2)
    rw [ek, ← hK] at c78
    have c79 := sp_79 (t := 71 + 48 * g + 3) (c := z) (s := u) (K := (K : Int)) ht (by omega) (fun k hk => by rw [e2 k hk]; have := vr k hk; omega) (fun k hk => by
      have := e7 (k / 9) (k % 9) (by omega) (by omega)
      rw [show 9 * (k / 9) + k % 9 = k by omega] at this
      rw [this]
      have q := rsv_r p1 (show k / 9 < 8 by omega) (show k % 9 < 9 by omega)
      have q2 := vr (k / 9) (by omega)
      unfold i32
      by_cases y : 0 < vt (PMV f R C g) (k / 9)
      · have := q.2 y
        omega
      · have : rsv (LV f R C g) (PMV f R C g) (k / 9) (k % 9) = 0 := if_pos (show vt (PMV f R C g) (k / 9) ≤ 0 by omega)
        omega) (by omega)
    have ero : ro u (71 + 48 * g + 3) z K = sg (Tx (LV f R C g) (PMV f R C g) z K) 8 := sg_eq fun k hk => by
      rw [e2 k hk, e7 k z hk (by omega)]
      rfl
    rw [ero] at c79
    have c77 := sp_77 (t := 71 + 48 * g + 3) (c := z) (s := u) ht (by omega)
    rw [sg_eq (g := fun x => flv (LV f R C g) (PMV f R C g) x z) fun k hk => e6 k z hk (by omega)] at c77
    obtain ⟨S, hS⟩ : ∃ S, S = sg (Tx (LV f R C g) (PMV f R C g) z K) 8 := ⟨_, rfl⟩
    have Sr : 0 ≤ S ∧ S ≤ 8 * K := by
      rw [hS]
      refine ⟨sg_nn fun x hx => (Tx_r p1 (by omega) dv hx).1, ?_⟩
      have := sg_le (f := Tx (LV f R C g) (PMV f R C g) z K) (g := fun _ => (K : Int) * 1) (n := 8) fun x hx => by
        show _ ≤ (K : Int) * 1
        rw [Int.mul_one]
        exact (Tx_r p1 (by omega) dv hx).2
      rw [sg_mul, sg_one] at this
      omega
    rw [← hS] at c79
    obtain ⟨F, hF⟩ : ∃ F, F = sg (fun x => flv (LV f R C g) (PMV f R C g) x z) 8 := ⟨_, rfl⟩
    rw [← hF] at c77
    have Fr : -2147483648 ≤ F ∧ F ≤ 2147483647 := by
      have b : ∀ x, x < 8 → 0 ≤ flv (LV f R C g) (PMV f R C g) x z ∧ flv (LV f R C g) (PMV f R C g) x z ≤ 100000000 := fun x hx => by
        have q1 := p1.1 x hx
        have q2 := p1.2.1 x z hx (by omega)
        unfold flv
        by_cases y : sg (fun y => PMV f R C g x y) 9 ≤ 0
        · rw [if_pos y]
          omega
        · rw [if_neg y]
          have q3 : PMV f R C g x z ≤ sg (fun y => PMV f R C g x y) 9 := sg_at (f := fun y => PMV f R C g x y) (n := 9) (fun y hy => (p1.2.1 x y hx hy).1) z (by omega)
          refine ⟨Int.ediv_nonneg (Int.mul_nonneg q1.1 q2.1) (by omega), ?_⟩
          have m := Int.ediv_le_ediv (show 0 < sg (fun y => PMV f R C g x y) 9 by omega) (Int.mul_le_mul_of_nonneg_left q3 q1.1)
          rw [Int.mul_ediv_cancel _ (by omega)] at m
          omega
      have l := sg_le (f := fun x => flv (LV f R C g) (PMV f R C g) x z) (g := fun _ => 100000000 * 1) (n := 8) fun x hx => by
        show _ ≤ (100000000 : Int) * 1
        have := (b x hx).2
        omega
      have l0 := sg_nn (f := fun x => flv (LV f R C g) (PMV f R C g) x z) (n := 8) fun x hx => (b x hx).1
      rw [sg_mul, sg_one] at l
      omega
    have m0 := Int.emod_nonneg S (show (K : Int) ≠ 0 by omega)
    have m1 := Int.emod_lt_of_pos S (show (0 : Int) < K by omega)
    obtain ⟨A, hA⟩ : ∃ A : Nat, S % (K : Int) = A := ⟨_, (Int.toNat_of_nonneg m0).symm⟩
    have s1 : gm_100 g z w s = some (if ¬ w = 0 then (if ¬ w - 1 = 0 then (K : Int) else S % K) / ((Nat.gcd (S % K).toNat K : Nat) : Int) else F + S / K, u) := by
      unfold gm_100
      rw [c118, Option.bind_some, if_neg (fun q => (gbD s).mp q ⟨a, b, h7⟩), if_pos hw', if_neg (by omega), if_pos d.2, if_pos a, Option.bind_some, vg_ g hg]
      show ((gm_19 (71 + 48 * g) 2 s).bind _) = _
      rw [u1, Option.bind_some, c78, Option.bind_some]
      show (if (-9223372036854775808 ≤ (K : Int) ∧ (K : Int) ≤ 9223372036854775807) then (if 0 < (K : Int) then ((gm_79 (71 + 48 * g + 3) z K u).bind fun q46 => if ¬ w = 0 then (if 0 ≤ q46.1 ∧ q46.1 ≤ 9223372036854775807 ∧ 0 < (K : Int) ∧ (K : Int) ≤ 9223372036854775807 then ((gm_127 (q46.1 % K) K (w - 1) q46.2).bind fun q51 => some (q51.1, q51.2)) else none) else ((gm_77 (71 + 48 * g + 3) z q46.2).bind fun q53 => if (-2147483648 ≤ q53.1 ∧ q53.1 ≤ 2147483647) then (if 0 ≤ q46.1 ∧ q46.1 ≤ 9223372036854775807 ∧ 0 < (K : Int) ∧ (K : Int) ≤ 9223372036854775807 then some ((q53.1 + (q46.1 / K)), q53.2) else none) else none)) else some ((-1), u)) else none) = _
      rw [if_pos (by omega), if_pos (by omega), c79, Option.bind_some]
      by_cases t : ¬ w = 0
      · rw [if_pos t, if_pos t, if_pos (show 0 ≤ S ∧ S ≤ 9223372036854775807 ∧ 0 < (K : Int) ∧ (K : Int) ≤ 9223372036854775807 by omega)]
        show ((gm_127 (S % K) K (w - 1) u).bind fun q51 => some (q51.1, q51.2)) = _
        rw [hA, sp_127f u (by omega) KB (show i32 (w - 1) by unfold i32; omega), Option.bind_some]
        rfl
      · rw [if_neg t, if_neg t]
        show ((gm_77 (71 + 48 * g + 3) z u).bind fun q53 => if (-2147483648 ≤ q53.1 ∧ q53.1 ≤ 2147483647) then (if 0 ≤ S ∧ S ≤ 9223372036854775807 ∧ 0 < (K : Int) ∧ (K : Int) ≤ 9223372036854775807 then some ((q53.1 + (S / K)), q53.2) else none) else none) = _
        rw [c77, Option.bind_some]
        show (if (-2147483648 ≤ F ∧ F ≤ 2147483647) then (if 0 ≤ S ∧ S ≤ 9223372036854775807 ∧ 0 < (K : Int) ∧ (K : Int) ≤ 9223372036854775807 then some ((F + (S / K)), u) else none) else none) = _
        rw [if_pos Fr, if_pos (by omega)]
    obtain ⟨p, q1, q2, q3, q4, q5⟩ := sp_181 (s := u) (R := R) (C := C) (g := g) (by rw [eu]; exact v.1) (by rw [eu]; exact h7) hg
    rw [eu] at q5
    obtain ⟨y, hy⟩ : ∃ y, y = gw2 (gw2 p 215 29 0) 215 30 1 := ⟨_, rfl⟩
    have y1 : ∀ k i, y.1 k i = p.1 k i := fun k i => by rw [hy]; rfl
    have y2 : ∀ k i, k ≠ 215 → y.2 k i = p.2 k i := fun k i q => by rw [hy, gw2_2, if_neg (by omega), gw2_2, if_neg (by omega)]
    have pS := q2.2.2 ru.2.2.2.2
    have yS : SC y := ⟨fun i hi => by rw [y1, y1, y1, y2 _ _ (by decide)]; exact pS.1 i hi, fun e he => by rw [y1, y2 _ _ (by decide), y2 _ _ (by decide), y2 _ _ (by decide), y2 _ _ (by decide)]; exact pS.2.1 e he, fun k hk => by rw [y2 _ _ (by decide)]; exact pS.2.2 k hk⟩
    have yK : KRw u y := KRw_tr (KR_w q2) ⟨fun k i _ => y1 k i, fun k i q => y2 k i (by omega), fun _ => yS⟩
    obtain ⟨o, o1, o2⟩ := sl_196 (z := z) (w := w) p1 p2 (by omega) hK d 100000 0 y (by omega) (by omega) (by rw [y1]; exact q4) (fun x hx => ⟨by rw [y2 _ _ (by decide)]; exact (q5 x hx).1, fun t ht => by rw [y1]; exact (q5 x hx).2 t ht⟩) (by rw [hy, gw2_2, if_pos ⟨rfl, rfl⟩]; rfl) (by rw [hy, gw2_2, if_neg (by omega), gw2_2, if_pos ⟨rfl, rfl⟩, Int.zero_mul]; rfl) yS
    have o1 : gm_196_63 100000 z w 0 0 y = _ := o1
    have s2 := s2 u eu
    rw [if_pos ok, q1, Option.bind_some, ← hy, o1, ← hS, ← hF] at s2
    exact ⟨_, u, o, s1, s2, q_inv kc u2 r v (KRw_tr yK o2)⟩
  · refine ⟨-1, s, s, ?_, (s2 s r.1).trans (if_neg ok), h⟩
    unfold gm_100
    rw [c118, Option.bind_some]
    by_cases a : (0 ≤ x ∧ x < 3) ∧ (0 ≤ z ∧ z ≤ 8) ∧ f 2 = 7
    · rw [if_neg (fun q => (gbD s).mp q a), if_pos hw']
      by_cases d : w < 0
      · rw [if_pos d]
        rfl
      · rw [if_neg d, if_neg (fun q => ok ⟨a, by omega, q⟩)]
        rfl
    · rw [if_pos ((gbD s).mpr a)]
      rfl
