section
/-! QUERIES: dense, alike -/
theorem i64_n {x : UInt64} (h : x.toNat < 9223372036854775808) : (x.toInt64).toInt = (x.toNat : Int) := by
  show x.toBitVec.toInt = _
  exact BitVec.toInt_eq_toNat_of_lt (by show 2 * x.toNat < 18446744073709551616; omega)
theorem i32_n {w : UInt32} (h : w.toNat < 2147483648) : (w.toInt32).toInt = (w.toNat : Int) := by
  show w.toBitVec.toInt = _
  exact BitVec.toInt_eq_toNat_of_lt (by show 2 * w.toNat < 4294967296; omega)
/-- the four answers, alike -/
theorem dense_a {A B : Nat} (hA : A ≤ 89991) (hB : 0 < B) (hB2 : B ≤ 96) (s : gx_S) : ∀ v : UInt64, v = FP.ddiv (FP.i2d (Int32.ofInt A)) (FP.i2d (Int32.ofInt B)) → gm_0 v s = some ((v.toInt64).toInt, s) ∧ gm_1 (FP.d2f v) s = some (((FP.d2f v).toInt32).toInt, s) ∧ gm_0 (FP.dsub v (FP.l2d (Int64.ofInt ((FP.d2l v).toInt)))) s = some (((FP.drem v FP.dconst1).toInt64).toInt, s) ∧ (FP.d2l (FP.ddiv v 4602678819172646912)).toInt = (FP.d2l (Jvm.Free.Hsc.floorOf (FP.ddiv v 4602678819172646912))).toInt := by
  intro v hv
  by_cases z : A = 0
  · subst z
    rw [v_z hB hB2] at hv
    subst hv
    have a1 : FP.d2f 0 = 0 := by decide +kernel
    have a2 : FP.dsub 0 (FP.l2d (Int64.ofInt ((FP.d2l 0).toInt))) = 0 := by decide +kernel
    have a3 : FP.drem 0 FP.dconst1 = 0 := by decide +kernel
    have a4 : (FP.d2l (FP.ddiv 0 4602678819172646912)).toInt = (FP.d2l (Jvm.Free.Hsc.floorOf (FP.ddiv 0 4602678819172646912))).toInt := by decide +kernel
    refine ⟨sp_0z s, ?_, ?_, a4⟩
    · rw [a1]
      exact sp_1z s
    · rw [a2, a3]
      exact sp_0z s
  · obtain ⟨e, T, h, h1, h2, h3⟩ := v_n (A := A) (B := B) (by omega) hA hB hB2
    rw [← hv] at h
    have bound : ∀ {x : UInt64} {e T : Nat}, NB x e T → x.toNat < 9223372036854775808 := fun {x e T} q => by
      obtain ⟨q0, q1, q2, q3⟩ := q
      omega
    obtain ⟨e', T', w⟩ := d2f_n h h1 h2 h3
    have wl : (FP.d2f v).toNat < 2147483648 := by
      obtain ⟨q0, q1, q2, q3⟩ := w
      omega
    obtain ⟨f1, f2⟩ := fr_eq h h1 h2
    refine ⟨?_, ?_, ?_, fl_n (NB_by h (by omega)) (by omega)⟩
    · rw [i64_n (bound h)]
      exact sp_0n s h
    · rw [i32_n wl]
      exact sp_1n s w
    · rw [f1]
      rcases f2 with f2 | ⟨e2, T2, f2⟩
      · rw [f2]
        exact sp_0z s
      · rw [i64_n (bound f2)]
        exact sp_0n s f2
/-- what dense answers -/
def DA (v : UInt64) (z : Int) : Int := if z = 0 then (v.toInt64).toInt else if z = 1 then ((FP.d2f v).toInt32).toInt else if z = 2 then ((FP.drem v FP.dconst1).toInt64).toInt else (FP.d2l (Jvm.Free.Hsc.floorOf (FP.ddiv v 4602678819172646912))).toInt
theorem ref_dense2 {s : gx_S} {R C : Nat} {x y z : Int} (M : MP (s.1 216) R C) (S : SC s) (hx : i32 x) (hy : i32 y) (hz : i32 z) : ∃ w : gx_S, gm_203 x y z s = some ((if ((0 ≤ x ∧ x < 3) ∧ (0 ≤ y ∧ y < 8) ∧ s.1 216 2 = 7 ∧ (0 ≤ z ∧ z ≤ 3) ∧ 0 < NC (s.1 216) R C 1 y) then DA (FP.ddiv (FP.i2d (Int32.ofInt (sg (fun k => GV (s.1 216) R C x.toNat k y.toNat) 8))) (FP.i2d (Int32.ofInt (NC (s.1 216) R C 1 y)))) z else -9223372036854775808), w) ∧ KRw s w := by
  have hy' := hy
  have hz' := hz
  unfold i32 at hy' hz'
  unfold gm_203
  rw [sp_150 M.2.1, Option.bind_some]
  by_cases h7 : s.1 216 2 = 7
  · rw [if_neg (fun q => (gbD s).mp q h7)]
    dsimp only
    rw [sp_148 s hx, Option.bind_some]
    by_cases a : 0 ≤ x ∧ x ≤ 2
    · rw [if_neg (fun q => (gbD s).mp q a), if_pos hy']
      dsimp only
      rw [in_ s hy (by omega) (by omega), Option.bind_some]
      by_cases b : 0 ≤ y ∧ y ≤ 7
      · rw [if_neg (fun q => (gbD s).mp q b)]
        dsimp only
        have c153 : gm_153 1 y s = _ := sp_153g M 1 y (by omega) hy'
        rw [c153, Option.bind_some]
        by_cases d : 0 < NC (s.1 216) R C 1 y
        · rw [if_neg (fun q => (gbD s).mp q d), if_pos hz']
          dsimp only
          rw [in_ s hz (by omega) (by omega), Option.bind_some]
          by_cases e : 0 ≤ z ∧ z ≤ 3
          · rw [if_pos (fun q => (gbD s).mp q e)]
            dsimp only
            obtain ⟨g, rfl⟩ : ∃ g : Nat, x = g := ⟨x.toNat, by omega⟩
            obtain ⟨y, rfl⟩ : ∃ y' : Nat, y = y' := ⟨y.toNat, by omega⟩
            obtain ⟨u, w, k1, k2, k3, k4, k5, k6, k7⟩ := sp_181f M h7 (show g < 3 by omega) S
            rw [k1, Option.bind_some, k2, Option.bind_some, sp_183 (R := 8) k5 (by omega) (show y < 9 by omega), Option.bind_some]
            dsimp only
            have ew := KR_216 k4
            have T : TT (s.1 216) := by
              unfold TT
              rw [h7]
              decide
            rw [sp_202 ew M T hy, Option.bind_some]
            dsimp only
            have nc := NC_96 M 1 (y : Int)
            have es : sg (fun x => w.2 224 (9 * x + y)) 8 = sg (fun k => GV (s.1 216) R C g k y) 8 := sg_eq fun x hx => ((k7 x hx).2.2 y (by omega)).2
            rw [es, if_pos (show ((0 ≤ (g : Int) ∧ (g : Int) < 3) ∧ (0 ≤ (y : Int) ∧ (y : Int) < 8) ∧ s.1 216 2 = 7 ∧ (0 ≤ z ∧ z ≤ 3) ∧ 0 < NC (s.1 216) R C 1 (y : Int)) by omega), show ((g : Int)).toNat = g by omega, show ((y : Int)).toNat = y by omega]
            unfold DA
            have hm := d_q (a := Int32.ofInt (sg (fun k => GV (s.1 216) R C g k y) 8)) (i_nz d (by omega))
            generalize FP.ddiv (FP.i2d (Int32.ofInt (sg (fun k => GV (s.1 216) R C g k y) 8))) (FP.i2d (Int32.ofInt (NC (s.1 216) R C 1 (y : Int)))) = v at hm ⊢
            have hf := hm.fin (by decide)
            have hn := hf.noNaN
            rw [if_pos (d6 hn)]
            by_cases z0 : z = 0
            · rw [if_pos z0, if_pos z0]
              exact ⟨_, rfl, KR_w k4⟩
            · rw [if_neg z0, if_neg z0]
              by_cases z1 : z = 1
              · rw [if_pos z1, if_pos z1, if_pos (d3 (Jvm.Free.Fl.d2f_out hn))]
                exact ⟨_, rfl, KR_w k4⟩
              · rw [if_neg z1, if_neg z1]
                by_cases z2 : z = 2
                · rw [if_pos z2, if_pos z2, if_pos (d6 (Jvm.Free.Fl.drem_out hf d_one.1.noNaN d_one.2))]
                  exact ⟨_, rfl, KR_w k4⟩
                · rw [if_neg z2, if_neg z2, if_pos (d6 (Jvm.Free.Fl.ddiv_out hn d_half.1 d_half.2))]
                  exact ⟨_, rfl, KR_w k4⟩
          · rw [if_neg (fun q => q ((gbD s).mpr e))]
            exact ⟨s, by rw [if_neg (show ¬ ((0 ≤ x ∧ x < 3) ∧ (0 ≤ y ∧ y < 8) ∧ s.1 216 2 = 7 ∧ (0 ≤ z ∧ z ≤ 3) ∧ 0 < NC (s.1 216) R C 1 y) by omega)]; rfl, KRw_rf s⟩
        · rw [if_pos ((gbD s).mpr d)]
          exact ⟨s, by rw [if_neg (show ¬ ((0 ≤ x ∧ x < 3) ∧ (0 ≤ y ∧ y < 8) ∧ s.1 216 2 = 7 ∧ (0 ≤ z ∧ z ≤ 3) ∧ 0 < NC (s.1 216) R C 1 y) by omega)]; rfl, KRw_rf s⟩
      · rw [if_pos ((gbD s).mpr b)]
        exact ⟨s, by rw [if_neg (show ¬ ((0 ≤ x ∧ x < 3) ∧ (0 ≤ y ∧ y < 8) ∧ s.1 216 2 = 7 ∧ (0 ≤ z ∧ z ≤ 3) ∧ 0 < NC (s.1 216) R C 1 y) by omega)]; rfl, KRw_rf s⟩
    · rw [if_pos ((gbD s).mpr a)]
      exact ⟨s, by rw [if_neg (show ¬ ((0 ≤ x ∧ x < 3) ∧ (0 ≤ y ∧ y < 8) ∧ s.1 216 2 = 7 ∧ (0 ≤ z ∧ z ≤ 3) ∧ 0 < NC (s.1 216) R C 1 y) by omega)]; rfl, KRw_rf s⟩
  · rw [if_pos ((gbD s).mpr h7)]
    exact ⟨s, by rw [if_neg (show ¬ ((0 ≤ x ∧ x < 3) ∧ (0 ≤ y ∧ y < 8) ∧ s.1 216 2 = 7 ∧ (0 ≤ z ∧ z ≤ 3) ∧ 0 < NC (s.1 216) R C 1 y) by omega)]; rfl, KRw_rf s⟩
theorem cls_dense2 {s : gx_S} {f : Nat → Int} {R C n L : Nat} {pf : Nat → Nat → Int} {tb : Nat → Int} {x y z : Int} (c : CV s f R C n pf L tb) (M : MP f R C) (hx : i32 x) (hy : i32 y) (hz : i32 z) : ∃ u : gx_S, gm_108 x y z s = some ((if ((0 ≤ x ∧ x < 3) ∧ (0 ≤ y ∧ y < 8) ∧ f 2 = 7 ∧ (0 ≤ z ∧ z ≤ 3) ∧ 0 < NC f R C 1 y) then DA (FP.ddiv (FP.i2d (Int32.ofInt (sg (fun k => GV f R C x.toNat k y.toNat) 8))) (FP.i2d (Int32.ofInt (NC f R C 1 y)))) z else -9223372036854775808), u) ∧ KC s u ∧ CV u f R C n pf L tb := by
  have hy' := hy
  have hz' := hz
  unfold i32 at hy' hz'
  have e6 : s.1 1 6 = f 2 := c.1.2.2.1
  have c57 := sp_57 (s := s) (a := 1) (by decide +kernel) (by rw [e6]; exact M.2.1)
  rw [e6] at c57
  unfold gm_108
  rw [sp_114 s hx, Option.bind_some]
  by_cases a : 0 ≤ x ∧ x < 3
  · rw [if_neg (fun q => (gbD s).mp q a)]
    dsimp only
    rw [sp_115 s hy, Option.bind_some]
    by_cases b : 0 ≤ y ∧ y < 8
    · rw [if_neg (fun q => (gbD s).mp q b)]
      dsimp only
      rw [c57, Option.bind_some]
      by_cases h7 : f 2 = 7
      · rw [if_neg (fun q => (gbD s).mp q h7), if_pos hz']
        dsimp only
        by_cases z0 : z < 0
        · rw [if_pos z0]
          exact ⟨s, by rw [if_neg (show ¬ ((0 ≤ x ∧ x < 3) ∧ (0 ≤ y ∧ y < 8) ∧ f 2 = 7 ∧ (0 ≤ z ∧ z ≤ 3) ∧ 0 < NC f R C 1 y) by omega)] <;> rfl, KC_rf s, c⟩
        · rw [if_neg z0]
          by_cases z3 : z ≤ 3
          · have nc := NC_96 M 1 y
            have c62 : gm_62 1 1 y s = _ := sp_62g c.1 M 1 y (by omega) hy'
            rw [if_pos z3, c62, Option.bind_some]
            dsimp only
            rw [if_pos (by omega)]
            by_cases d : NC f R C 1 y = 0
            · rw [if_neg (fun q => q d)]
              exact ⟨s, by rw [if_neg (show ¬ ((0 ≤ x ∧ x < 3) ∧ (0 ≤ y ∧ y < 8) ∧ f 2 = 7 ∧ (0 ≤ z ∧ z ≤ 3) ∧ 0 < NC f R C 1 y) by omega)] <;> rfl, KC_rf s, c⟩
            · rw [if_pos d, if_pos a, Option.bind_some]
              obtain ⟨g, rfl⟩ : ∃ g : Nat, x = g := ⟨x.toNat, by omega⟩
              obtain ⟨y, rfl⟩ : ∃ y' : Nat, y = y' := ⟨y.toNat, by omega⟩
              have hg : g < 3 := by omega
              obtain ⟨D, u, u1, u2, u3, u4, u5, u6⟩ := CV_ready (w := 2) (by omega) M h7 hg c
              have u1 : gm_19 (71 + 48 * g) 2 s = some u := u1
              have kc : KC s u := KG_KC (ga_of hg) u3
              rw [vg_ g hg, u1, Option.bind_some, sp_76 (ga_of hg).2.2.2.1 (show y < 9 by omega), Option.bind_some]
              dsimp only
              have tm := (u4.2.2.2.2.1 u5).2.1
              have es : sg (fun x => u.1 (71 + 48 * g + 3 + 8) (9 * x + y)) 8 = sg (fun k => GV f R C g k y) 8 := sg_eq fun x hx => ((tm x hx).2.2 y (by omega)).2.2.2
              have gr_ := (GV_r M h7 hg).2.2 y (by omega)
              have n0 : 0 < NC f R C 1 (y : Int) := by omega
              rw [es, if_pos (show ((0 ≤ (g : Int) ∧ (g : Int) < 3) ∧ (0 ≤ (y : Int) ∧ (y : Int) < 8) ∧ f 2 = 7 ∧ (0 ≤ z ∧ z ≤ 3) ∧ 0 < NC f R C 1 (y : Int)) by omega), show ((g : Int)).toNat = g by omega, show ((y : Int)).toNat = y by omega]
              obtain ⟨p1, p2, p3, p4⟩ := dense_a (A := (sg (fun k => GV f R C g k y) 8).toNat) (B := (NC f R C 1 (y : Int)).toNat) (by omega) (by omega) (by omega) u _ rfl
              rw [show (((sg (fun k => GV f R C g k y) 8).toNat : Nat) : Int) = sg (fun k => GV f R C g k y) 8 by omega, show (((NC f R C 1 (y : Int)).toNat : Nat) : Int) = NC f R C 1 (y : Int) by omega] at p1 p2 p3 p4
              unfold DA
              have hm := d_q (a := Int32.ofInt (sg (fun k => GV f R C g k y) 8)) (i_nz (show 0 < NC f R C 1 (y : Int) by omega) (by omega))
              generalize FP.ddiv (FP.i2d (Int32.ofInt (sg (fun k => GV f R C g k y) 8))) (FP.i2d (Int32.ofInt (NC f R C 1 (y : Int)))) = v at hm p1 p2 p3 p4 ⊢
              have hf := hm.fin (by decide)
              have hn := hf.noNaN
              rw [if_pos (d6 hn)]
              by_cases z0 : z = 0
              · rw [if_pos z0, if_pos z0, p1, Option.bind_some]
                exact ⟨u, rfl, kc, u2⟩
              · rw [if_neg z0, if_neg z0]
                by_cases z1 : z = 1
                · rw [if_pos z1, if_pos z1, if_pos (d3 (Jvm.Free.Fl.d2f_out hn)), p2, Option.bind_some]
                  exact ⟨u, rfl, kc, u2⟩
                · rw [if_neg z1, if_neg z1]
                  by_cases z2 : z = 2
                  · have hs := Jvm.Free.Fl.dsub_out hn (Jvm.Free.Fl.l2d_fin (Int64.ofInt ((FP.d2l v).toInt)))
                    rw [if_pos z2, if_pos z2, if_pos (d6 hs), p3, Option.bind_some]
                    exact ⟨u, rfl, kc, u2⟩
                  · rw [if_neg z2, if_neg z2, if_pos (d6 (Jvm.Free.Fl.ddiv_out hn d_half.1 d_half.2)), p4]
                    exact ⟨u, rfl, kc, u2⟩
          · rw [if_neg z3]
            exact ⟨s, by rw [if_neg (show ¬ ((0 ≤ x ∧ x < 3) ∧ (0 ≤ y ∧ y < 8) ∧ f 2 = 7 ∧ (0 ≤ z ∧ z ≤ 3) ∧ 0 < NC f R C 1 y) by omega)] <;> rfl, KC_rf s, c⟩
      · rw [if_pos ((gbD s).mpr h7)]
        exact ⟨s, by rw [if_neg (show ¬ ((0 ≤ x ∧ x < 3) ∧ (0 ≤ y ∧ y < 8) ∧ f 2 = 7 ∧ (0 ≤ z ∧ z ≤ 3) ∧ 0 < NC f R C 1 y) by omega)] <;> rfl, KC_rf s, c⟩
    · rw [if_pos ((gbD s).mpr b)]
      exact ⟨s, by rw [if_neg (show ¬ ((0 ≤ x ∧ x < 3) ∧ (0 ≤ y ∧ y < 8) ∧ f 2 = 7 ∧ (0 ≤ z ∧ z ≤ 3) ∧ 0 < NC f R C 1 y) by omega)] <;> rfl, KC_rf s, c⟩
  · rw [if_pos ((gbD s).mpr a)]
    exact ⟨s, by rw [if_neg (show ¬ ((0 ≤ x ∧ x < 3) ∧ (0 ≤ y ∧ y < 8) ∧ f 2 = 7 ∧ (0 ≤ z ∧ z ≤ 3) ∧ 0 < NC f R C 1 y) by omega)] <;> rfl, KC_rf s, c⟩
theorem inv_dense {s : gx_S} (h : INV s) {x y z : Int} (hx : i32 x) (hy : i32 y) (hz : i32 z) : two s (gm_108 x y z) (gm_203 x y z) := by
  obtain ⟨f, R, C, n, pf, L, tb, c, r, v⟩ := id h
  obtain ⟨u, h1, kc, cu⟩ := cls_dense2 c v.1 hx hy hz
  have ru := RV_KC kc r
  have eu : u.1 216 = f := ru.1
  obtain ⟨w, h2, kw⟩ := ref_dense2 (s := u) (R := R) (C := C) (by rw [eu]; exact v.1) ru.2.2.2.2 hx hy hz
  rw [eu] at h2
  exact ⟨_, u, w, h1, h2, q_inv kc cu r v kw⟩
end
